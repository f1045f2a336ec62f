theorem dX10_isSign_27 : decode cX10_isSign 27 = .ok (.iconst 0, 1) := by decide +kernel
theorem dX10_isSign_28 : decode cX10_isSign 28 = .ok (.ireturn, 1) := by decide +kernel
theorem dX10_goOn_0 : decode cX10_goOn 0 = .ok (.aload_n 0, 1) := by decide +kernel
theorem dX10_goOn_1 : decode cX10_goOn 1 = .ok (.getfield 289, 3) := by decide +kernel
theorem dX10_goOn_4 : decode cX10_goOn 4 = .ok (.ifCond .ne 7, 3) := by decide +kernel
theorem dX10_goOn_7 : decode cX10_goOn 7 = .ok (.aload_n 0, 1) := by decide +kernel
theorem dX10_goOn_8 : decode cX10_goOn 8 = .ok (.invokevirtual 295, 3) := by decide +kernel
theorem dX10_goOn_11 : decode cX10_goOn 11 = .ok (.return_, 1) := by decide +kernel
theorem dX10_numeral_0 : decode cX10_numeral 0 = .ok (.aload_n 0, 1) := by decide +kernel
theorem dX10_numeral_1 : decode cX10_numeral 1 = .ok (.getfield 289, 3) := by decide +kernel
theorem dX10_numeral_4 : decode cX10_numeral 4 = .ok (.ifCond .eq 5, 3) := by decide +kernel
theorem dX10_numeral_7 : decode cX10_numeral 7 = .ok (.iload_n 1, 1) := by decide +kernel
theorem dX10_numeral_8 : decode cX10_numeral 8 = .ok (.ireturn, 1) := by decide +kernel
theorem dX10_numeral_9 : decode cX10_numeral 9 = .ok (.aload_n 0, 1) := by decide +kernel
theorem dX10_numeral_10 : decode cX10_numeral 10 = .ok (.getfield 254, 3) := by decide +kernel
theorem dX10_numeral_13 : decode cX10_numeral 13 = .ok (.iconst 2, 1) := by decide +kernel
theorem dX10_numeral_14 : decode cX10_numeral 14 = .ok (.if_icmp .eq 11, 3) := by decide +kernel
theorem dX10_numeral_17 : decode cX10_numeral 17 = .ok (.aload_n 0, 1) := by decide +kernel
theorem dX10_numeral_18 : decode cX10_numeral 18 = .ok (.iconst 1, 1) := by decide +kernel
theorem dX10_numeral_19 : decode cX10_numeral 19 = .ok (.invokevirtual 298, 3) := by decide +kernel
theorem dX10_numeral_22 : decode cX10_numeral 22 = .ok (.goto 24, 3) := by decide +kernel
theorem dX10_numeral_25 : decode cX10_numeral 25 = .ok (.aload_n 0, 1) := by decide +kernel
theorem dX10_numeral_26 : decode cX10_numeral 26 = .ok (.getfield 264, 3) := by decide +kernel
theorem dX10_numeral_29 : decode cX10_numeral 29 = .ok (.iload_n 1, 1) := by decide +kernel
theorem dX10_numeral_30 : decode cX10_numeral 30 = .ok (.if_icmp .lt 11, 3) := by decide +kernel
theorem dX10_numeral_33 : decode cX10_numeral 33 = .ok (.aload_n 0, 1) := by decide +kernel
theorem dX10_numeral_34 : decode cX10_numeral 34 = .ok (.getfield 264, 3) := by decide +kernel
theorem dX10_numeral_37 : decode cX10_numeral 37 = .ok (.iload_n 2, 1) := by decide +kernel
theorem dX10_numeral_38 : decode cX10_numeral 38 = .ok (.if_icmp .le 8, 3) := by decide +kernel
theorem dX10_numeral_41 : decode cX10_numeral 41 = .ok (.aload_n 0, 1) := by decide +kernel
theorem dX10_numeral_42 : decode cX10_numeral 42 = .ok (.iconst 2, 1) := by decide +kernel
theorem dX10_numeral_43 : decode cX10_numeral 43 = .ok (.invokevirtual 298, 3) := by decide +kernel
theorem dX10_numeral_46 : decode cX10_numeral 46 = .ok (.aload_n 0, 1) := by decide +kernel
theorem dX10_numeral_47 : decode cX10_numeral 47 = .ok (.getfield 289, 3) := by decide +kernel
theorem dX10_numeral_50 : decode cX10_numeral 50 = .ok (.ifCond .eq 5, 3) := by decide +kernel
theorem dX10_numeral_53 : decode cX10_numeral 53 = .ok (.iload_n 1, 1) := by decide +kernel
theorem dX10_numeral_54 : decode cX10_numeral 54 = .ok (.ireturn, 1) := by decide +kernel
theorem dX10_numeral_55 : decode cX10_numeral 55 = .ok (.aload_n 0, 1) := by decide +kernel
theorem dX10_numeral_56 : decode cX10_numeral 56 = .ok (.getfield 264, 3) := by decide +kernel
theorem dX10_numeral_59 : decode cX10_numeral 59 = .ok (.istore_n 3, 1) := by decide +kernel
theorem dX10_numeral_60 : decode cX10_numeral 60 = .ok (.aload_n 0, 1) := by decide +kernel
theorem dX10_numeral_61 : decode cX10_numeral 61 = .ok (.invokevirtual 295, 3) := by decide +kernel
theorem dX10_numeral_64 : decode cX10_numeral 64 = .ok (.iload_n 3, 1) := by decide +kernel
theorem dX10_numeral_65 : decode cX10_numeral 65 = .ok (.ireturn, 1) := by decide +kernel
theorem dX10_found_0 : decode cX10_found 0 = .ok (.iconst 0, 1) := by decide +kernel
theorem dX10_found_1 : decode cX10_found 1 = .ok (.istore 4, 2) := by decide +kernel
theorem dX10_found_3 : decode cX10_found 3 = .ok (.iload 4, 2) := by decide +kernel
theorem dX10_found_5 : decode cX10_found 5 = .ok (.iload_n 2, 1) := by decide +kernel
theorem dX10_found_6 : decode cX10_found 6 = .ok (.if_icmp .ge 22, 3) := by decide +kernel
theorem dX10_found_9 : decode cX10_found 9 = .ok (.aload_n 0, 1) := by decide +kernel
theorem dX10_found_10 : decode cX10_found 10 = .ok (.iload_n 1, 1) := by decide +kernel
theorem dX10_found_11 : decode cX10_found 11 = .ok (.iload 4, 2) := by decide +kernel
theorem dX10_found_13 : decode cX10_found 13 = .ok (.iadd, 1) := by decide +kernel
theorem dX10_found_14 : decode cX10_found 14 = .ok (.iaload, 1) := by decide +kernel
theorem dX10_found_15 : decode cX10_found 15 = .ok (.iload_n 3, 1) := by decide +kernel
theorem dX10_found_16 : decode cX10_found 16 = .ok (.if_icmp .ne 6, 3) := by decide +kernel
theorem dX10_found_19 : decode cX10_found 19 = .ok (.iload 4, 2) := by decide +kernel
theorem dX10_found_21 : decode cX10_found 21 = .ok (.ireturn, 1) := by decide +kernel
theorem dX10_found_22 : decode cX10_found 22 = .ok (.iinc 4 1, 3) := by decide +kernel
theorem dX10_found_25 : decode cX10_found 25 = .ok (.goto (-22), 3) := by decide +kernel
theorem dX10_found_28 : decode cX10_found 28 = .ok (.iconst (-1), 1) := by decide +kernel
theorem dX10_found_29 : decode cX10_found 29 = .ok (.ireturn, 1) := by decide +kernel
theorem dX10_fresh_0 : decode cX10_fresh 0 = .ok (.aload_n 0, 1) := by decide +kernel
theorem dX10_fresh_1 : decode cX10_fresh 1 = .ok (.getfield 289, 3) := by decide +kernel
theorem dX10_fresh_4 : decode cX10_fresh 4 = .ok (.ifCond .eq 5, 3) := by decide +kernel
theorem dX10_fresh_7 : decode cX10_fresh 7 = .ok (.iconst 0, 1) := by decide +kernel
theorem dX10_fresh_8 : decode cX10_fresh 8 = .ok (.ireturn, 1) := by decide +kernel
theorem dX10_fresh_9 : decode cX10_fresh 9 = .ok (.aload_n 0, 1) := by decide +kernel
theorem dX10_fresh_10 : decode cX10_fresh 10 = .ok (.getfield 254, 3) := by decide +kernel
theorem dX10_fresh_13 : decode cX10_fresh 13 = .ok (.iconst 1, 1) := by decide +kernel
theorem dX10_fresh_14 : decode cX10_fresh 14 = .ok (.if_icmp .eq 11, 3) := by decide +kernel
theorem dX10_fresh_17 : decode cX10_fresh 17 = .ok (.aload_n 0, 1) := by decide +kernel
theorem dX10_fresh_18 : decode cX10_fresh 18 = .ok (.iconst 1, 1) := by decide +kernel
theorem dX10_fresh_19 : decode cX10_fresh 19 = .ok (.invokevirtual 298, 3) := by decide +kernel
theorem dX10_fresh_22 : decode cX10_fresh 22 = .ok (.goto 22, 3) := by decide +kernel
theorem dX10_fresh_25 : decode cX10_fresh 25 = .ok (.aload_n 1, 1) := by decide +kernel
theorem dX10_fresh_26 : decode cX10_fresh 26 = .ok (.iload_n 2, 1) := by decide +kernel
theorem dX10_fresh_27 : decode cX10_fresh 27 = .ok (.iload_n 3, 1) := by decide +kernel
theorem dX10_fresh_28 : decode cX10_fresh 28 = .ok (.aload_n 0, 1) := by decide +kernel
theorem dX10_fresh_29 : decode cX10_fresh 29 = .ok (.getfield 264, 3) := by decide +kernel
theorem dX10_fresh_32 : decode cX10_fresh 32 = .ok (.invokestatic 301, 3) := by decide +kernel
theorem dX10_fresh_35 : decode cX10_fresh 35 = .ok (.iconst (-1), 1) := by decide +kernel
theorem dX10_fresh_36 : decode cX10_fresh 36 = .ok (.if_icmp .eq 8, 3) := by decide +kernel
theorem dX10_fresh_39 : decode cX10_fresh 39 = .ok (.aload_n 0, 1) := by decide +kernel
theorem dX10_fresh_40 : decode cX10_fresh 40 = .ok (.iconst 3, 1) := by decide +kernel
theorem dX10_fresh_41 : decode cX10_fresh 41 = .ok (.invokevirtual 298, 3) := by decide +kernel
theorem dX10_fresh_44 : decode cX10_fresh 44 = .ok (.aload_n 0, 1) := by decide +kernel
theorem dX10_fresh_45 : decode cX10_fresh 45 = .ok (.getfield 289, 3) := by decide +kernel
theorem dX10_fresh_48 : decode cX10_fresh 48 = .ok (.ifCond .eq 5, 3) := by decide +kernel
theorem dX10_fresh_51 : decode cX10_fresh 51 = .ok (.iconst 0, 1) := by decide +kernel
theorem dX10_fresh_52 : decode cX10_fresh 52 = .ok (.ireturn, 1) := by decide +kernel
theorem dX10_fresh_53 : decode cX10_fresh 53 = .ok (.aload_n 0, 1) := by decide +kernel
theorem dX10_fresh_54 : decode cX10_fresh 54 = .ok (.getfield 264, 3) := by decide +kernel
theorem dX10_fresh_57 : decode cX10_fresh 57 = .ok (.istore 4, 2) := by decide +kernel
theorem dX10_fresh_59 : decode cX10_fresh 59 = .ok (.aload_n 0, 1) := by decide +kernel
theorem dX10_fresh_60 : decode cX10_fresh 60 = .ok (.invokevirtual 295, 3) := by decide +kernel
theorem dX10_fresh_63 : decode cX10_fresh 63 = .ok (.iload 4, 2) := by decide +kernel
theorem dX10_fresh_65 : decode cX10_fresh 65 = .ok (.ireturn, 1) := by decide +kernel
theorem dX10_fresher_0 : decode cX10_fresher 0 = .ok (.aload_n 0, 1) := by decide +kernel
theorem dX10_fresher_1 : decode cX10_fresher 1 = .ok (.getfield 13, 3) := by decide +kernel
theorem dX10_fresher_4 : decode cX10_fresher 4 = .ok (.bipush 11, 2) := by decide +kernel
theorem dX10_fresher_6 : decode cX10_fresher 6 = .ok (.iload_n 1, 1) := by decide +kernel
theorem dX10_fresher_7 : decode cX10_fresher 7 = .ok (.iadd, 1) := by decide +kernel
theorem dX10_fresher_8 : decode cX10_fresher 8 = .ok (.iaload, 1) := by decide +kernel
theorem dX10_fresher_9 : decode cX10_fresher 9 = .ok (.ireturn, 1) := by decide +kernel
theorem dX10_reads_0 : decode cX10_reads 0 = .ok (.aload_n 0, 1) := by decide +kernel
theorem dX10_reads_1 : decode cX10_reads 1 = .ok (.getfield 13, 3) := by decide +kernel
theorem dX10_reads_4 : decode cX10_reads 4 = .ok (.bipush 11, 2) := by decide +kernel
theorem dX10_reads_6 : decode cX10_reads 6 = .ok (.iload_n 1, 1) := by decide +kernel
theorem dX10_reads_7 : decode cX10_reads 7 = .ok (.iadd, 1) := by decide +kernel
theorem dX10_reads_8 : decode cX10_reads 8 = .ok (.iload_n 2, 1) := by decide +kernel
theorem dX10_reads_9 : decode cX10_reads 9 = .ok (.iastore, 1) := by decide +kernel
theorem dX10_reads_10 : decode cX10_reads 10 = .ok (.return_, 1) := by decide +kernel
theorem dX10_atHand_0 : decode cX10_atHand 0 = .ok (.aload_n 0, 1) := by decide +kernel
theorem dX10_atHand_1 : decode cX10_atHand 1 = .ok (.getfield 289, 3) := by decide +kernel
theorem dX10_atHand_4 : decode cX10_atHand 4 = .ok (.ifCond .eq 5, 3) := by decide +kernel
theorem dX10_atHand_7 : decode cX10_atHand 7 = .ok (.iconst 0, 1) := by decide +kernel
theorem dX10_atHand_8 : decode cX10_atHand 8 = .ok (.ireturn, 1) := by decide +kernel
theorem dX10_atHand_9 : decode cX10_atHand 9 = .ok (.aload_n 0, 1) := by decide +kernel
theorem dX10_atHand_10 : decode cX10_atHand 10 = .ok (.getfield 254, 3) := by decide +kernel
theorem dX10_atHand_13 : decode cX10_atHand 13 = .ok (.iconst 1, 1) := by decide +kernel
theorem dX10_atHand_14 : decode cX10_atHand 14 = .ok (.if_icmp .eq 11, 3) := by decide +kernel
theorem dX10_atHand_17 : decode cX10_atHand 17 = .ok (.aload_n 0, 1) := by decide +kernel
theorem dX10_atHand_18 : decode cX10_atHand 18 = .ok (.iconst 1, 1) := by decide +kernel
theorem dX10_atHand_19 : decode cX10_atHand 19 = .ok (.invokevirtual 298, 3) := by decide +kernel
theorem dX10_atHand_22 : decode cX10_atHand 22 = .ok (.goto 22, 3) := by decide +kernel
theorem dX10_atHand_25 : decode cX10_atHand 25 = .ok (.aload_n 1, 1) := by decide +kernel
theorem dX10_atHand_26 : decode cX10_atHand 26 = .ok (.iload_n 2, 1) := by decide +kernel
theorem dX10_atHand_27 : decode cX10_atHand 27 = .ok (.iload_n 3, 1) := by decide +kernel
theorem dX10_atHand_28 : decode cX10_atHand 28 = .ok (.aload_n 0, 1) := by decide +kernel
theorem dX10_atHand_29 : decode cX10_atHand 29 = .ok (.getfield 264, 3) := by decide +kernel
theorem dX10_atHand_32 : decode cX10_atHand 32 = .ok (.invokestatic 301, 3) := by decide +kernel
theorem dX10_atHand_35 : decode cX10_atHand 35 = .ok (.iconst (-1), 1) := by decide +kernel
theorem dX10_atHand_36 : decode cX10_atHand 36 = .ok (.if_icmp .ne 8, 3) := by decide +kernel
theorem dX10_atHand_39 : decode cX10_atHand 39 = .ok (.aload_n 0, 1) := by decide +kernel
theorem dX10_atHand_40 : decode cX10_atHand 40 = .ok (.iconst 4, 1) := by decide +kernel
theorem dX10_atHand_41 : decode cX10_atHand 41 = .ok (.invokevirtual 298, 3) := by decide +kernel
theorem dX10_atHand_44 : decode cX10_atHand 44 = .ok (.aload_n 0, 1) := by decide +kernel
theorem dX10_atHand_45 : decode cX10_atHand 45 = .ok (.getfield 289, 3) := by decide +kernel
theorem dX10_atHand_48 : decode cX10_atHand 48 = .ok (.ifCond .eq 7, 3) := by decide +kernel
theorem dX10_atHand_51 : decode cX10_atHand 51 = .ok (.iconst 0, 1) := by decide +kernel
theorem dX10_atHand_52 : decode cX10_atHand 52 = .ok (.goto 13, 3) := by decide +kernel
theorem dX10_atHand_55 : decode cX10_atHand 55 = .ok (.aload_n 1, 1) := by decide +kernel
theorem dX10_atHand_56 : decode cX10_atHand 56 = .ok (.iload_n 2, 1) := by decide +kernel
theorem dX10_atHand_57 : decode cX10_atHand 57 = .ok (.iload_n 3, 1) := by decide +kernel
theorem dX10_atHand_58 : decode cX10_atHand 58 = .ok (.aload_n 0, 1) := by decide +kernel
theorem dX10_atHand_59 : decode cX10_atHand 59 = .ok (.getfield 264, 3) := by decide +kernel
theorem dX10_atHand_62 : decode cX10_atHand 62 = .ok (.invokestatic 301, 3) := by decide +kernel
theorem dX10_atHand_65 : decode cX10_atHand 65 = .ok (.ireturn, 1) := by decide +kernel
theorem dX10_placeAtHand_0 : decode cX10_placeAtHand 0 = .ok (.aload_n 0, 1) := by decide +kernel
theorem dX10_placeAtHand_1 : decode cX10_placeAtHand 1 = .ok (.aload_n 0, 1) := by decide +kernel
theorem dX10_placeAtHand_2 : decode cX10_placeAtHand 2 = .ok (.getfield 16, 3) := by decide +kernel
theorem dX10_placeAtHand_5 : decode cX10_placeAtHand 5 = .ok (.bipush 6, 2) := by decide +kernel
theorem dX10_placeAtHand_7 : decode cX10_placeAtHand 7 = .ok (.aload_n 0, 1) := by decide +kernel
theorem dX10_placeAtHand_8 : decode cX10_placeAtHand 8 = .ok (.iconst 0, 1) := by decide +kernel
theorem dX10_placeAtHand_9 : decode cX10_placeAtHand 9 = .ok (.invokevirtual 305, 3) := by decide +kernel
theorem dX10_placeAtHand_12 : decode cX10_placeAtHand 12 = .ok (.invokevirtual 309, 3) := by decide +kernel
theorem dX10_placeAtHand_15 : decode cX10_placeAtHand 15 = .ok (.ireturn, 1) := by decide +kernel
theorem dX10_ownerAtHand_0 : decode cX10_ownerAtHand 0 = .ok (.aload_n 0, 1) := by decide +kernel
theorem dX10_ownerAtHand_1 : decode cX10_ownerAtHand 1 = .ok (.aload_n 0, 1) := by decide +kernel
theorem dX10_ownerAtHand_2 : decode cX10_ownerAtHand 2 = .ok (.getfield 28, 3) := by decide +kernel
theorem dX10_ownerAtHand_5 : decode cX10_ownerAtHand 5 = .ok (.iconst 4, 1) := by decide +kernel
theorem dX10_ownerAtHand_6 : decode cX10_ownerAtHand 6 = .ok (.aload_n 0, 1) := by decide +kernel
theorem dX10_ownerAtHand_7 : decode cX10_ownerAtHand 7 = .ok (.iconst 2, 1) := by decide +kernel
theorem dX10_ownerAtHand_8 : decode cX10_ownerAtHand 8 = .ok (.invokevirtual 305, 3) := by decide +kernel
theorem dX10_ownerAtHand_11 : decode cX10_ownerAtHand 11 = .ok (.invokevirtual 309, 3) := by decide +kernel
theorem dX10_ownerAtHand_14 : decode cX10_ownerAtHand 14 = .ok (.ireturn, 1) := by decide +kernel
theorem dX10_placeAhead_0 : decode cX10_placeAhead 0 = .ok (.aload_n 0, 1) := by decide +kernel
theorem dX10_placeAhead_1 : decode cX10_placeAhead 1 = .ok (.invokevirtual 313, 3) := by decide +kernel
theorem dX10_placeAhead_4 : decode cX10_placeAhead 4 = .ok (.istore_n 1, 1) := by decide +kernel
theorem dX10_placeAhead_5 : decode cX10_placeAhead 5 = .ok (.aload_n 0, 1) := by decide +kernel
theorem dX10_placeAhead_6 : decode cX10_placeAhead 6 = .ok (.invokevirtual 316, 3) := by decide +kernel
theorem dX10_placeAhead_9 : decode cX10_placeAhead 9 = .ok (.iload_n 1, 1) := by decide +kernel
theorem dX10_placeAhead_10 : decode cX10_placeAhead 10 = .ok (.ireturn, 1) := by decide +kernel
theorem dX10_ownerAhead_0 : decode cX10_ownerAhead 0 = .ok (.aload_n 0, 1) := by decide +kernel
theorem dX10_ownerAhead_1 : decode cX10_ownerAhead 1 = .ok (.invokevirtual 319, 3) := by decide +kernel
theorem dX10_ownerAhead_4 : decode cX10_ownerAhead 4 = .ok (.istore_n 1, 1) := by decide +kernel
theorem dX10_ownerAhead_5 : decode cX10_ownerAhead 5 = .ok (.aload_n 0, 1) := by decide +kernel
theorem dX10_ownerAhead_6 : decode cX10_ownerAhead 6 = .ok (.invokevirtual 316, 3) := by decide +kernel
theorem dX10_ownerAhead_9 : decode cX10_ownerAhead 9 = .ok (.iload_n 1, 1) := by decide +kernel
theorem dX10_ownerAhead_10 : decode cX10_ownerAhead 10 = .ok (.ireturn, 1) := by decide +kernel
theorem dX10_isFull_0 : decode cX10_isFull 0 = .ok (.iload_n 1, 1) := by decide +kernel
theorem dX10_isFull_1 : decode cX10_isFull 1 = .ok (.tableswitch 158 0 7 #[47, 63, 79, 158, 94, 110, 126, 142], 47) := by decide +kernel
theorem dX10_isFull_48 : decode cX10_isFull 48 = .ok (.aload_n 0, 1) := by decide +kernel
theorem dX10_isFull_49 : decode cX10_isFull 49 = .ok (.iconst 0, 1) := by decide +kernel
theorem dX10_isFull_50 : decode cX10_isFull 50 = .ok (.invokevirtual 305, 3) := by decide +kernel
theorem dX10_isFull_53 : decode cX10_isFull 53 = .ok (.bipush 6, 2) := by decide +kernel
theorem dX10_isFull_55 : decode cX10_isFull 55 = .ok (.if_icmp .ne 7, 3) := by decide +kernel
theorem dX10_isFull_58 : decode cX10_isFull 58 = .ok (.iconst 1, 1) := by decide +kernel
theorem dX10_isFull_59 : decode cX10_isFull 59 = .ok (.goto 4, 3) := by decide +kernel
theorem dX10_isFull_62 : decode cX10_isFull 62 = .ok (.iconst 0, 1) := by decide +kernel
theorem dX10_isFull_63 : decode cX10_isFull 63 = .ok (.ireturn, 1) := by decide +kernel
theorem dX10_isFull_64 : decode cX10_isFull 64 = .ok (.aload_n 0, 1) := by decide +kernel
theorem dX10_isFull_65 : decode cX10_isFull 65 = .ok (.iconst 1, 1) := by decide +kernel
theorem dX10_isFull_66 : decode cX10_isFull 66 = .ok (.invokevirtual 305, 3) := by decide +kernel
theorem dX10_isFull_69 : decode cX10_isFull 69 = .ok (.bipush 9, 2) := by decide +kernel
theorem dX10_isFull_71 : decode cX10_isFull 71 = .ok (.if_icmp .ne 7, 3) := by decide +kernel
theorem dX10_isFull_74 : decode cX10_isFull 74 = .ok (.iconst 1, 1) := by decide +kernel
theorem dX10_isFull_75 : decode cX10_isFull 75 = .ok (.goto 4, 3) := by decide +kernel
theorem dX10_isFull_78 : decode cX10_isFull 78 = .ok (.iconst 0, 1) := by decide +kernel
theorem dX10_isFull_79 : decode cX10_isFull 79 = .ok (.ireturn, 1) := by decide +kernel
theorem dX10_isFull_80 : decode cX10_isFull 80 = .ok (.aload_n 0, 1) := by decide +kernel
theorem dX10_isFull_81 : decode cX10_isFull 81 = .ok (.iconst 2, 1) := by decide +kernel
theorem dX10_isFull_82 : decode cX10_isFull 82 = .ok (.invokevirtual 305, 3) := by decide +kernel
theorem dX10_isFull_85 : decode cX10_isFull 85 = .ok (.iconst 4, 1) := by decide +kernel
theorem dX10_isFull_86 : decode cX10_isFull 86 = .ok (.if_icmp .ne 7, 3) := by decide +kernel
theorem dX10_isFull_89 : decode cX10_isFull 89 = .ok (.iconst 1, 1) := by decide +kernel
theorem dX10_isFull_90 : decode cX10_isFull 90 = .ok (.goto 4, 3) := by decide +kernel
theorem dX10_isFull_93 : decode cX10_isFull 93 = .ok (.iconst 0, 1) := by decide +kernel
theorem dX10_isFull_94 : decode cX10_isFull 94 = .ok (.ireturn, 1) := by decide +kernel
theorem dX10_isFull_95 : decode cX10_isFull 95 = .ok (.aload_n 0, 1) := by decide +kernel
theorem dX10_isFull_96 : decode cX10_isFull 96 = .ok (.iconst 3, 1) := by decide +kernel
theorem dX10_isFull_97 : decode cX10_isFull 97 = .ok (.invokevirtual 305, 3) := by decide +kernel
theorem dX10_isFull_100 : decode cX10_isFull 100 = .ok (.bipush 8, 2) := by decide +kernel
theorem dX10_isFull_102 : decode cX10_isFull 102 = .ok (.if_icmp .ne 7, 3) := by decide +kernel
theorem dX10_isFull_105 : decode cX10_isFull 105 = .ok (.iconst 1, 1) := by decide +kernel
theorem dX10_isFull_106 : decode cX10_isFull 106 = .ok (.goto 4, 3) := by decide +kernel
theorem dX10_isFull_109 : decode cX10_isFull 109 = .ok (.iconst 0, 1) := by decide +kernel
theorem dX10_isFull_110 : decode cX10_isFull 110 = .ok (.ireturn, 1) := by decide +kernel
theorem dX10_isFull_111 : decode cX10_isFull 111 = .ok (.aload_n 0, 1) := by decide +kernel
theorem dX10_isFull_112 : decode cX10_isFull 112 = .ok (.iconst 4, 1) := by decide +kernel
theorem dX10_isFull_113 : decode cX10_isFull 113 = .ok (.invokevirtual 305, 3) := by decide +kernel
theorem dX10_isFull_116 : decode cX10_isFull 116 = .ok (.bipush 8, 2) := by decide +kernel
theorem dX10_isFull_118 : decode cX10_isFull 118 = .ok (.if_icmp .ne 7, 3) := by decide +kernel
theorem dX10_isFull_121 : decode cX10_isFull 121 = .ok (.iconst 1, 1) := by decide +kernel
theorem dX10_isFull_122 : decode cX10_isFull 122 = .ok (.goto 4, 3) := by decide +kernel
theorem dX10_isFull_125 : decode cX10_isFull 125 = .ok (.iconst 0, 1) := by decide +kernel
theorem dX10_isFull_126 : decode cX10_isFull 126 = .ok (.ireturn, 1) := by decide +kernel
theorem dX10_isFull_127 : decode cX10_isFull 127 = .ok (.aload_n 0, 1) := by decide +kernel
theorem dX10_isFull_128 : decode cX10_isFull 128 = .ok (.iconst 5, 1) := by decide +kernel
theorem dX10_isFull_129 : decode cX10_isFull 129 = .ok (.invokevirtual 305, 3) := by decide +kernel
theorem dX10_isFull_132 : decode cX10_isFull 132 = .ok (.bipush 6, 2) := by decide +kernel
theorem dX10_isFull_134 : decode cX10_isFull 134 = .ok (.if_icmp .ne 7, 3) := by decide +kernel
theorem dX10_isFull_137 : decode cX10_isFull 137 = .ok (.iconst 1, 1) := by decide +kernel
theorem dX10_isFull_138 : decode cX10_isFull 138 = .ok (.goto 4, 3) := by decide +kernel
theorem dX10_isFull_141 : decode cX10_isFull 141 = .ok (.iconst 0, 1) := by decide +kernel
theorem dX10_isFull_142 : decode cX10_isFull 142 = .ok (.ireturn, 1) := by decide +kernel
theorem dX10_isFull_143 : decode cX10_isFull 143 = .ok (.aload_n 0, 1) := by decide +kernel
theorem dX10_isFull_144 : decode cX10_isFull 144 = .ok (.bipush 6, 2) := by decide +kernel
theorem dX10_isFull_146 : decode cX10_isFull 146 = .ok (.invokevirtual 305, 3) := by decide +kernel
theorem dX10_isFull_149 : decode cX10_isFull 149 = .ok (.iconst 4, 1) := by decide +kernel
theorem dX10_isFull_150 : decode cX10_isFull 150 = .ok (.if_icmp .ne 7, 3) := by decide +kernel
theorem dX10_isFull_153 : decode cX10_isFull 153 = .ok (.iconst 1, 1) := by decide +kernel
theorem dX10_isFull_154 : decode cX10_isFull 154 = .ok (.goto 4, 3) := by decide +kernel
theorem dX10_isFull_157 : decode cX10_isFull 157 = .ok (.iconst 0, 1) := by decide +kernel
theorem dX10_isFull_158 : decode cX10_isFull 158 = .ok (.ireturn, 1) := by decide +kernel
theorem dX10_isFull_159 : decode cX10_isFull 159 = .ok (.iconst 0, 1) := by decide +kernel
theorem dX10_isFull_160 : decode cX10_isFull 160 = .ok (.ireturn, 1) := by decide +kernel
theorem dX10_line_0 : decode cX10_line 0 = .ok (.aload_n 0, 1) := by decide +kernel
theorem dX10_line_1 : decode cX10_line 1 = .ok (.getfield 254, 3) := by decide +kernel
theorem dX10_line_4 : decode cX10_line 4 = .ok (.ifCond .ne 12, 3) := by decide +kernel
theorem dX10_line_7 : decode cX10_line 7 = .ok (.aload_n 0, 1) := by decide +kernel
theorem dX10_line_8 : decode cX10_line 8 = .ok (.getfield 264, 3) := by decide +kernel
theorem dX10_line_11 : decode cX10_line 11 = .ok (.bipush 12, 2) := by decide +kernel
theorem dX10_line_13 : decode cX10_line 13 = .ok (.if_icmp .le 9, 3) := by decide +kernel
theorem dX10_line_16 : decode cX10_line 16 = .ok (.aload_n 0, 1) := by decide +kernel
theorem dX10_line_17 : decode cX10_line 17 = .ok (.iconst 1, 1) := by decide +kernel
theorem dX10_line_18 : decode cX10_line 18 = .ok (.invokevirtual 298, 3) := by decide +kernel
theorem dX10_line_21 : decode cX10_line 21 = .ok (.return_, 1) := by decide +kernel
theorem dX10_line_22 : decode cX10_line 22 = .ok (.aload_n 0, 1) := by decide +kernel
theorem dX10_line_23 : decode cX10_line 23 = .ok (.getfield 264, 3) := by decide +kernel
theorem dX10_line_26 : decode cX10_line 26 = .ok (.istore_n 1, 1) := by decide +kernel
theorem dX10_line_27 : decode cX10_line 27 = .ok (.aload_n 0, 1) := by decide +kernel
theorem dX10_line_28 : decode cX10_line 28 = .ok (.iload_n 1, 1) := by decide +kernel
theorem dX10_line_29 : decode cX10_line 29 = .ok (.invokevirtual 322, 3) := by decide +kernel
theorem dX10_line_32 : decode cX10_line 32 = .ok (.ifCond .eq 11, 3) := by decide +kernel
theorem dX10_line_35 : decode cX10_line 35 = .ok (.aload_n 0, 1) := by decide +kernel
theorem dX10_line_36 : decode cX10_line 36 = .ok (.iconst 2, 1) := by decide +kernel
theorem dX10_line_37 : decode cX10_line 37 = .ok (.invokevirtual 298, 3) := by decide +kernel
theorem dX10_line_40 : decode cX10_line 40 = .ok (.goto 32, 3) := by decide +kernel
theorem dX10_line_43 : decode cX10_line 43 = .ok (.iload_n 1, 1) := by decide +kernel
theorem dX10_line_44 : decode cX10_line 44 = .ok (.bipush 9, 2) := by decide +kernel
theorem dX10_line_46 : decode cX10_line 46 = .ok (.if_icmp .lt 26, 3) := by decide +kernel
theorem dX10_line_49 : decode cX10_line 49 = .ok (.iload_n 1, 1) := by decide +kernel
theorem dX10_line_50 : decode cX10_line 50 = .ok (.bipush 11, 2) := by decide +kernel
theorem dX10_line_52 : decode cX10_line 52 = .ok (.if_icmp .gt 20, 3) := by decide +kernel
theorem dX10_line_55 : decode cX10_line 55 = .ok (.aload_n 0, 1) := by decide +kernel
theorem dX10_line_56 : decode cX10_line 56 = .ok (.getfield 325, 3) := by decide +kernel
theorem dX10_line_59 : decode cX10_line 59 = .ok (.iload_n 1, 1) := by decide +kernel
theorem dX10_line_60 : decode cX10_line 60 = .ok (.ishr, 1) := by decide +kernel
theorem dX10_line_61 : decode cX10_line 61 = .ok (.iconst 1, 1) := by decide +kernel
theorem dX10_line_62 : decode cX10_line 62 = .ok (.iand, 1) := by decide +kernel
theorem dX10_line_63 : decode cX10_line 63 = .ok (.iconst 1, 1) := by decide +kernel
theorem dX10_line_64 : decode cX10_line 64 = .ok (.if_icmp .ne 8, 3) := by decide +kernel
theorem dX10_line_67 : decode cX10_line 67 = .ok (.aload_n 0, 1) := by decide +kernel
theorem dX10_line_68 : decode cX10_line 68 = .ok (.iconst 3, 1) := by decide +kernel
theorem dX10_line_69 : decode cX10_line 69 = .ok (.invokevirtual 298, 3) := by decide +kernel
theorem dX10_line_72 : decode cX10_line 72 = .ok (.aload_n 0, 1) := by decide +kernel
theorem dX10_line_73 : decode cX10_line 73 = .ok (.getfield 289, 3) := by decide +kernel
theorem dX10_line_76 : decode cX10_line 76 = .ok (.ifCond .eq 4, 3) := by decide +kernel
theorem dX10_line_79 : decode cX10_line 79 = .ok (.return_, 1) := by decide +kernel
theorem dX10_line_80 : decode cX10_line 80 = .ok (.aload_n 0, 1) := by decide +kernel
theorem dX10_line_81 : decode cX10_line 81 = .ok (.dup, 1) := by decide +kernel
theorem dX10_line_82 : decode cX10_line 82 = .ok (.getfield 325, 3) := by decide +kernel
theorem dX10_line_85 : decode cX10_line 85 = .ok (.iconst 1, 1) := by decide +kernel
theorem dX10_line_86 : decode cX10_line 86 = .ok (.iload_n 1, 1) := by decide +kernel
theorem dX10_line_87 : decode cX10_line 87 = .ok (.ishl, 1) := by decide +kernel
theorem dX10_line_88 : decode cX10_line 88 = .ok (.ior, 1) := by decide +kernel
theorem dX10_line_89 : decode cX10_line 89 = .ok (.putfield 325, 3) := by decide +kernel
theorem dX10_line_92 : decode cX10_line 92 = .ok (.aload_n 0, 1) := by decide +kernel
theorem dX10_line_93 : decode cX10_line 93 = .ok (.invokevirtual 295, 3) := by decide +kernel
theorem dX10_line_96 : decode cX10_line 96 = .ok (.iload_n 1, 1) := by decide +kernel
theorem dX10_line_97 : decode cX10_line 97 = .ok (.tableswitch 570 0 11 #[63, 115, 130, 194, 201, 216, 297, 378, 455, 521, 537, 553], 63) := by decide +kernel
theorem dX10_line_160 : decode cX10_line 160 = .ok (.bipush 6, 2) := by decide +kernel
theorem dX10_line_162 : decode cX10_line 162 = .ok (.aload_n 0, 1) := by decide +kernel
theorem dX10_line_163 : decode cX10_line 163 = .ok (.iconst 0, 1) := by decide +kernel
theorem dX10_line_164 : decode cX10_line 164 = .ok (.invokevirtual 305, 3) := by decide +kernel
theorem dX10_line_167 : decode cX10_line 167 = .ok (.iadd, 1) := by decide +kernel
theorem dX10_line_168 : decode cX10_line 168 = .ok (.istore_n 2, 1) := by decide +kernel
theorem dX10_line_169 : decode cX10_line 169 = .ok (.aload_n 0, 1) := by decide +kernel
theorem dX10_line_170 : decode cX10_line 170 = .ok (.getfield 16, 3) := by decide +kernel
theorem dX10_line_173 : decode cX10_line 173 = .ok (.iload_n 2, 1) := by decide +kernel
theorem dX10_line_174 : decode cX10_line 174 = .ok (.aload_n 0, 1) := by decide +kernel
theorem dX10_line_175 : decode cX10_line 175 = .ok (.aload_n 0, 1) := by decide +kernel
theorem dX10_line_176 : decode cX10_line 176 = .ok (.getfield 16, 3) := by decide +kernel
theorem dX10_line_179 : decode cX10_line 179 = .ok (.bipush 6, 2) := by decide +kernel
theorem dX10_line_181 : decode cX10_line 181 = .ok (.aload_n 0, 1) := by decide +kernel
theorem dX10_line_182 : decode cX10_line 182 = .ok (.iconst 0, 1) := by decide +kernel
theorem dX10_line_183 : decode cX10_line 183 = .ok (.invokevirtual 305, 3) := by decide +kernel
theorem dX10_line_186 : decode cX10_line 186 = .ok (.invokevirtual 328, 3) := by decide +kernel
theorem dX10_line_189 : decode cX10_line 189 = .ok (.iastore, 1) := by decide +kernel
theorem dX10_line_190 : decode cX10_line 190 = .ok (.aload_n 0, 1) := by decide +kernel
theorem dX10_line_191 : decode cX10_line 191 = .ok (.getfield 88, 3) := by decide +kernel
theorem dX10_line_194 : decode cX10_line 194 = .ok (.iload_n 2, 1) := by decide +kernel
theorem dX10_line_195 : decode cX10_line 195 = .ok (.iconst 0, 1) := by decide +kernel
theorem dX10_line_196 : decode cX10_line 196 = .ok (.iastore, 1) := by decide +kernel
theorem dX10_line_197 : decode cX10_line 197 = .ok (.aload_n 0, 1) := by decide +kernel
theorem dX10_line_198 : decode cX10_line 198 = .ok (.iconst 0, 1) := by decide +kernel
theorem dX10_line_199 : decode cX10_line 199 = .ok (.aload_n 0, 1) := by decide +kernel
theorem dX10_line_200 : decode cX10_line 200 = .ok (.iconst 0, 1) := by decide +kernel
theorem dX10_line_201 : decode cX10_line 201 = .ok (.invokevirtual 305, 3) := by decide +kernel
theorem dX10_line_204 : decode cX10_line 204 = .ok (.iconst 1, 1) := by decide +kernel
theorem dX10_line_205 : decode cX10_line 205 = .ok (.iadd, 1) := by decide +kernel
theorem dX10_line_206 : decode cX10_line 206 = .ok (.invokevirtual 331, 3) := by decide +kernel
theorem dX10_line_209 : decode cX10_line 209 = .ok (.goto 462, 3) := by decide +kernel
theorem dX10_line_212 : decode cX10_line 212 = .ok (.aload_n 0, 1) := by decide +kernel
theorem dX10_line_213 : decode cX10_line 213 = .ok (.bipush 9, 2) := by decide +kernel
theorem dX10_line_215 : decode cX10_line 215 = .ok (.aload_n 0, 1) := by decide +kernel
theorem dX10_line_216 : decode cX10_line 216 = .ok (.iconst 1, 1) := by decide +kernel
theorem dX10_line_217 : decode cX10_line 217 = .ok (.invokevirtual 305, 3) := by decide +kernel
theorem dX10_line_220 : decode cX10_line 220 = .ok (.iadd, 1) := by decide +kernel
theorem dX10_line_221 : decode cX10_line 221 = .ok (.invokevirtual 335, 3) := by decide +kernel
theorem dX10_line_224 : decode cX10_line 224 = .ok (.goto 447, 3) := by decide +kernel
theorem dX10_line_227 : decode cX10_line 227 = .ok (.iconst 4, 1) := by decide +kernel
theorem dX10_line_228 : decode cX10_line 228 = .ok (.aload_n 0, 1) := by decide +kernel
theorem dX10_line_229 : decode cX10_line 229 = .ok (.iconst 2, 1) := by decide +kernel
theorem dX10_line_230 : decode cX10_line 230 = .ok (.invokevirtual 305, 3) := by decide +kernel
theorem dX10_line_233 : decode cX10_line 233 = .ok (.iadd, 1) := by decide +kernel
theorem dX10_line_234 : decode cX10_line 234 = .ok (.istore_n 3, 1) := by decide +kernel
theorem dX10_line_235 : decode cX10_line 235 = .ok (.aload_n 0, 1) := by decide +kernel
theorem dX10_line_236 : decode cX10_line 236 = .ok (.getfield 28, 3) := by decide +kernel
theorem dX10_line_239 : decode cX10_line 239 = .ok (.iload_n 3, 1) := by decide +kernel
theorem dX10_line_240 : decode cX10_line 240 = .ok (.aload_n 0, 1) := by decide +kernel
theorem dX10_line_241 : decode cX10_line 241 = .ok (.aload_n 0, 1) := by decide +kernel
theorem dX10_line_242 : decode cX10_line 242 = .ok (.getfield 28, 3) := by decide +kernel
theorem dX10_line_245 : decode cX10_line 245 = .ok (.iconst 4, 1) := by decide +kernel
theorem dX10_line_246 : decode cX10_line 246 = .ok (.aload_n 0, 1) := by decide +kernel
theorem dX10_line_247 : decode cX10_line 247 = .ok (.iconst 2, 1) := by decide +kernel
theorem dX10_line_248 : decode cX10_line 248 = .ok (.invokevirtual 305, 3) := by decide +kernel
theorem dX10_line_251 : decode cX10_line 251 = .ok (.invokevirtual 328, 3) := by decide +kernel
theorem dX10_line_254 : decode cX10_line 254 = .ok (.iastore, 1) := by decide +kernel
theorem dX10_line_255 : decode cX10_line 255 = .ok (.aload_n 0, 1) := by decide +kernel
theorem dX10_line_256 : decode cX10_line 256 = .ok (.getfield 31, 3) := by decide +kernel
theorem dX10_line_259 : decode cX10_line 259 = .ok (.iload_n 3, 1) := by decide +kernel
theorem dX10_line_260 : decode cX10_line 260 = .ok (.aload_n 0, 1) := by decide +kernel
theorem dX10_line_261 : decode cX10_line 261 = .ok (.iconst 0, 1) := by decide +kernel
theorem dX10_line_262 : decode cX10_line 262 = .ok (.sipush 999, 3) := by decide +kernel
theorem dX10_line_265 : decode cX10_line 265 = .ok (.invokevirtual 338, 3) := by decide +kernel
theorem dX10_line_268 : decode cX10_line 268 = .ok (.iastore, 1) := by decide +kernel
theorem dX10_line_269 : decode cX10_line 269 = .ok (.aload_n 0, 1) := by decide +kernel
theorem dX10_line_270 : decode cX10_line 270 = .ok (.getfield 34, 3) := by decide +kernel
theorem dX10_line_273 : decode cX10_line 273 = .ok (.iload_n 3, 1) := by decide +kernel
theorem dX10_line_274 : decode cX10_line 274 = .ok (.iconst 0, 1) := by decide +kernel
theorem dX10_line_275 : decode cX10_line 275 = .ok (.iastore, 1) := by decide +kernel
theorem dX10_line_276 : decode cX10_line 276 = .ok (.aload_n 0, 1) := by decide +kernel
theorem dX10_line_277 : decode cX10_line 277 = .ok (.iconst 2, 1) := by decide +kernel
theorem dX10_line_278 : decode cX10_line 278 = .ok (.aload_n 0, 1) := by decide +kernel
theorem dX10_line_279 : decode cX10_line 279 = .ok (.iconst 2, 1) := by decide +kernel
theorem dX10_line_280 : decode cX10_line 280 = .ok (.invokevirtual 305, 3) := by decide +kernel
theorem dX10_line_283 : decode cX10_line 283 = .ok (.iconst 1, 1) := by decide +kernel
theorem dX10_line_284 : decode cX10_line 284 = .ok (.iadd, 1) := by decide +kernel
theorem dX10_line_285 : decode cX10_line 285 = .ok (.invokevirtual 331, 3) := by decide +kernel
theorem dX10_line_288 : decode cX10_line 288 = .ok (.goto 383, 3) := by decide +kernel
theorem dX10_line_291 : decode cX10_line 291 = .ok (.aload_n 0, 1) := by decide +kernel
theorem dX10_line_292 : decode cX10_line 292 = .ok (.invokevirtual 342, 3) := by decide +kernel
theorem dX10_line_295 : decode cX10_line 295 = .ok (.goto 376, 3) := by decide +kernel
theorem dX10_line_298 : decode cX10_line 298 = .ok (.aload_n 0, 1) := by decide +kernel
theorem dX10_line_299 : decode cX10_line 299 = .ok (.bipush 8, 2) := by decide +kernel
theorem dX10_line_301 : decode cX10_line 301 = .ok (.aload_n 0, 1) := by decide +kernel
theorem dX10_line_302 : decode cX10_line 302 = .ok (.iconst 3, 1) := by decide +kernel
theorem dX10_line_303 : decode cX10_line 303 = .ok (.invokevirtual 305, 3) := by decide +kernel
theorem dX10_line_306 : decode cX10_line 306 = .ok (.iadd, 1) := by decide +kernel
theorem dX10_line_307 : decode cX10_line 307 = .ok (.invokevirtual 345, 3) := by decide +kernel
theorem dX10_line_310 : decode cX10_line 310 = .ok (.goto 361, 3) := by decide +kernel
theorem dX10_line_313 : decode cX10_line 313 = .ok (.bipush 8, 2) := by decide +kernel
theorem dX10_line_315 : decode cX10_line 315 = .ok (.aload_n 0, 1) := by decide +kernel
theorem dX10_line_316 : decode cX10_line 316 = .ok (.iconst 4, 1) := by decide +kernel
theorem dX10_line_317 : decode cX10_line 317 = .ok (.invokevirtual 305, 3) := by decide +kernel
theorem dX10_line_320 : decode cX10_line 320 = .ok (.iadd, 1) := by decide +kernel
theorem dX10_line_321 : decode cX10_line 321 = .ok (.istore 4, 2) := by decide +kernel
theorem dX10_line_323 : decode cX10_line 323 = .ok (.aload_n 0, 1) := by decide +kernel
theorem dX10_line_324 : decode cX10_line 324 = .ok (.getfield 52, 3) := by decide +kernel
theorem dX10_line_327 : decode cX10_line 327 = .ok (.iload 4, 2) := by decide +kernel
theorem dX10_line_329 : decode cX10_line 329 = .ok (.aload_n 0, 1) := by decide +kernel
theorem dX10_line_330 : decode cX10_line 330 = .ok (.invokevirtual 348, 3) := by decide +kernel
theorem dX10_line_333 : decode cX10_line 333 = .ok (.iastore, 1) := by decide +kernel
theorem dX10_line_334 : decode cX10_line 334 = .ok (.aload_n 0, 1) := by decide +kernel
theorem dX10_line_335 : decode cX10_line 335 = .ok (.getfield 55, 3) := by decide +kernel
theorem dX10_line_338 : decode cX10_line 338 = .ok (.iload 4, 2) := by decide +kernel
theorem dX10_line_340 : decode cX10_line 340 = .ok (.aload_n 0, 1) := by decide +kernel
theorem dX10_line_341 : decode cX10_line 341 = .ok (.invokevirtual 351, 3) := by decide +kernel
theorem dX10_line_344 : decode cX10_line 344 = .ok (.iastore, 1) := by decide +kernel
theorem dX10_line_345 : decode cX10_line 345 = .ok (.aload_n 0, 1) := by decide +kernel
theorem dX10_line_346 : decode cX10_line 346 = .ok (.getfield 58, 3) := by decide +kernel
theorem dX10_line_349 : decode cX10_line 349 = .ok (.iload 4, 2) := by decide +kernel
theorem dX10_line_351 : decode cX10_line 351 = .ok (.aload_n 0, 1) := by decide +kernel
theorem dX10_line_352 : decode cX10_line 352 = .ok (.iconst 0, 1) := by decide +kernel
theorem dX10_line_353 : decode cX10_line 353 = .ok (.bipush 47, 2) := by decide +kernel
theorem dX10_line_355 : decode cX10_line 355 = .ok (.invokevirtual 338, 3) := by decide +kernel
theorem dX10_line_358 : decode cX10_line 358 = .ok (.iastore, 1) := by decide +kernel
theorem dX10_line_359 : decode cX10_line 359 = .ok (.aload_n 0, 1) := by decide +kernel
theorem dX10_line_360 : decode cX10_line 360 = .ok (.getfield 61, 3) := by decide +kernel
theorem dX10_line_363 : decode cX10_line 363 = .ok (.iload 4, 2) := by decide +kernel
theorem dX10_line_365 : decode cX10_line 365 = .ok (.aload_n 0, 1) := by decide +kernel
theorem dX10_line_366 : decode cX10_line 366 = .ok (.aload_n 0, 1) := by decide +kernel
theorem dX10_line_367 : decode cX10_line 367 = .ok (.getfield 58, 3) := by decide +kernel
theorem dX10_line_370 : decode cX10_line 370 = .ok (.iload 4, 2) := by decide +kernel
theorem dX10_line_372 : decode cX10_line 372 = .ok (.iaload, 1) := by decide +kernel
theorem dX10_line_373 : decode cX10_line 373 = .ok (.bipush 47, 2) := by decide +kernel
theorem dX10_line_375 : decode cX10_line 375 = .ok (.invokevirtual 338, 3) := by decide +kernel
theorem dX10_line_378 : decode cX10_line 378 = .ok (.iastore, 1) := by decide +kernel
theorem dX10_line_379 : decode cX10_line 379 = .ok (.aload_n 0, 1) := by decide +kernel
theorem dX10_line_380 : decode cX10_line 380 = .ok (.iconst 4, 1) := by decide +kernel
theorem dX10_line_381 : decode cX10_line 381 = .ok (.aload_n 0, 1) := by decide +kernel
theorem dX10_line_382 : decode cX10_line 382 = .ok (.iconst 4, 1) := by decide +kernel
theorem dX10_line_383 : decode cX10_line 383 = .ok (.invokevirtual 305, 3) := by decide +kernel
theorem dX10_line_386 : decode cX10_line 386 = .ok (.iconst 1, 1) := by decide +kernel
theorem dX10_line_387 : decode cX10_line 387 = .ok (.iadd, 1) := by decide +kernel
theorem dX10_line_388 : decode cX10_line 388 = .ok (.invokevirtual 331, 3) := by decide +kernel
theorem dX10_line_391 : decode cX10_line 391 = .ok (.goto 280, 3) := by decide +kernel
theorem dX10_line_394 : decode cX10_line 394 = .ok (.bipush 6, 2) := by decide +kernel
theorem dX10_line_396 : decode cX10_line 396 = .ok (.aload_n 0, 1) := by decide +kernel
theorem dX10_line_397 : decode cX10_line 397 = .ok (.iconst 5, 1) := by decide +kernel
theorem dX10_line_398 : decode cX10_line 398 = .ok (.invokevirtual 305, 3) := by decide +kernel
theorem dX10_line_401 : decode cX10_line 401 = .ok (.iadd, 1) := by decide +kernel
theorem dX10_line_402 : decode cX10_line 402 = .ok (.istore 5, 2) := by decide +kernel
theorem dX10_line_404 : decode cX10_line 404 = .ok (.aload_n 0, 1) := by decide +kernel
theorem dX10_line_405 : decode cX10_line 405 = .ok (.getfield 64, 3) := by decide +kernel
theorem dX10_line_408 : decode cX10_line 408 = .ok (.iload 5, 2) := by decide +kernel
theorem dX10_line_410 : decode cX10_line 410 = .ok (.aload_n 0, 1) := by decide +kernel
theorem dX10_line_411 : decode cX10_line 411 = .ok (.invokevirtual 348, 3) := by decide +kernel
theorem dX10_line_414 : decode cX10_line 414 = .ok (.iastore, 1) := by decide +kernel
theorem dX10_line_415 : decode cX10_line 415 = .ok (.aload_n 0, 1) := by decide +kernel
theorem dX10_line_416 : decode cX10_line 416 = .ok (.getfield 67, 3) := by decide +kernel
theorem dX10_line_419 : decode cX10_line 419 = .ok (.iload 5, 2) := by decide +kernel
theorem dX10_line_421 : decode cX10_line 421 = .ok (.aload_n 0, 1) := by decide +kernel
theorem dX10_line_422 : decode cX10_line 422 = .ok (.invokevirtual 351, 3) := by decide +kernel
theorem dX10_line_425 : decode cX10_line 425 = .ok (.iastore, 1) := by decide +kernel
theorem dX10_line_426 : decode cX10_line 426 = .ok (.aload_n 0, 1) := by decide +kernel
theorem dX10_line_427 : decode cX10_line 427 = .ok (.getfield 70, 3) := by decide +kernel
theorem dX10_line_430 : decode cX10_line 430 = .ok (.iload 5, 2) := by decide +kernel
theorem dX10_line_432 : decode cX10_line 432 = .ok (.aload_n 0, 1) := by decide +kernel
theorem dX10_line_433 : decode cX10_line 433 = .ok (.iconst 0, 1) := by decide +kernel
theorem dX10_line_434 : decode cX10_line 434 = .ok (.bipush 47, 2) := by decide +kernel
theorem dX10_line_436 : decode cX10_line 436 = .ok (.invokevirtual 338, 3) := by decide +kernel
theorem dX10_line_439 : decode cX10_line 439 = .ok (.iastore, 1) := by decide +kernel
theorem dX10_line_440 : decode cX10_line 440 = .ok (.aload_n 0, 1) := by decide +kernel
theorem dX10_line_441 : decode cX10_line 441 = .ok (.getfield 73, 3) := by decide +kernel
theorem dX10_line_444 : decode cX10_line 444 = .ok (.iload 5, 2) := by decide +kernel
theorem dX10_line_446 : decode cX10_line 446 = .ok (.aload_n 0, 1) := by decide +kernel
theorem dX10_line_447 : decode cX10_line 447 = .ok (.aload_n 0, 1) := by decide +kernel
theorem dX10_line_448 : decode cX10_line 448 = .ok (.getfield 70, 3) := by decide +kernel
theorem dX10_line_451 : decode cX10_line 451 = .ok (.iload 5, 2) := by decide +kernel
theorem dX10_line_453 : decode cX10_line 453 = .ok (.iaload, 1) := by decide +kernel
theorem dX10_line_454 : decode cX10_line 454 = .ok (.bipush 47, 2) := by decide +kernel
theorem dX10_line_456 : decode cX10_line 456 = .ok (.invokevirtual 338, 3) := by decide +kernel
theorem dX10_line_459 : decode cX10_line 459 = .ok (.iastore, 1) := by decide +kernel
theorem dX10_line_460 : decode cX10_line 460 = .ok (.aload_n 0, 1) := by decide +kernel
theorem dX10_line_461 : decode cX10_line 461 = .ok (.iconst 5, 1) := by decide +kernel
theorem dX10_line_462 : decode cX10_line 462 = .ok (.aload_n 0, 1) := by decide +kernel
theorem dX10_line_463 : decode cX10_line 463 = .ok (.iconst 5, 1) := by decide +kernel
theorem dX10_line_464 : decode cX10_line 464 = .ok (.invokevirtual 305, 3) := by decide +kernel
theorem dX10_line_467 : decode cX10_line 467 = .ok (.iconst 1, 1) := by decide +kernel
theorem dX10_line_468 : decode cX10_line 468 = .ok (.iadd, 1) := by decide +kernel
theorem dX10_line_469 : decode cX10_line 469 = .ok (.invokevirtual 331, 3) := by decide +kernel
theorem dX10_line_472 : decode cX10_line 472 = .ok (.goto 199, 3) := by decide +kernel
theorem dX10_line_475 : decode cX10_line 475 = .ok (.iconst 4, 1) := by decide +kernel
theorem dX10_line_476 : decode cX10_line 476 = .ok (.aload_n 0, 1) := by decide +kernel
theorem dX10_line_477 : decode cX10_line 477 = .ok (.bipush 6, 2) := by decide +kernel
theorem dX10_line_479 : decode cX10_line 479 = .ok (.invokevirtual 305, 3) := by decide +kernel
theorem dX10_line_482 : decode cX10_line 482 = .ok (.iadd, 1) := by decide +kernel
theorem dX10_line_483 : decode cX10_line 483 = .ok (.istore 6, 2) := by decide +kernel
theorem dX10_line_485 : decode cX10_line 485 = .ok (.aload_n 0, 1) := by decide +kernel
theorem dX10_line_486 : decode cX10_line 486 = .ok (.getfield 76, 3) := by decide +kernel
theorem dX10_line_489 : decode cX10_line 489 = .ok (.iload 6, 2) := by decide +kernel
theorem dX10_line_491 : decode cX10_line 491 = .ok (.aload_n 0, 1) := by decide +kernel
theorem dX10_line_492 : decode cX10_line 492 = .ok (.invokevirtual 348, 3) := by decide +kernel
theorem dX10_line_495 : decode cX10_line 495 = .ok (.iastore, 1) := by decide +kernel
theorem dX10_line_496 : decode cX10_line 496 = .ok (.aload_n 0, 1) := by decide +kernel
theorem dX10_line_497 : decode cX10_line 497 = .ok (.getfield 79, 3) := by decide +kernel
theorem dX10_line_500 : decode cX10_line 500 = .ok (.iload 6, 2) := by decide +kernel
theorem dX10_line_502 : decode cX10_line 502 = .ok (.aload_n 0, 1) := by decide +kernel
theorem dX10_line_503 : decode cX10_line 503 = .ok (.invokevirtual 351, 3) := by decide +kernel
theorem dX10_line_506 : decode cX10_line 506 = .ok (.iastore, 1) := by decide +kernel
theorem dX10_line_507 : decode cX10_line 507 = .ok (.aload_n 0, 1) := by decide +kernel
theorem dX10_line_508 : decode cX10_line 508 = .ok (.getfield 82, 3) := by decide +kernel
theorem dX10_line_511 : decode cX10_line 511 = .ok (.iload 6, 2) := by decide +kernel
theorem dX10_line_513 : decode cX10_line 513 = .ok (.aload_n 0, 1) := by decide +kernel
theorem dX10_line_514 : decode cX10_line 514 = .ok (.iconst 1, 1) := by decide +kernel
theorem dX10_line_515 : decode cX10_line 515 = .ok (.bipush 12, 2) := by decide +kernel
theorem dX10_line_517 : decode cX10_line 517 = .ok (.invokevirtual 338, 3) := by decide +kernel
theorem dX10_line_520 : decode cX10_line 520 = .ok (.iastore, 1) := by decide +kernel
theorem dX10_line_521 : decode cX10_line 521 = .ok (.aload_n 0, 1) := by decide +kernel
theorem dX10_line_522 : decode cX10_line 522 = .ok (.getfield 85, 3) := by decide +kernel
theorem dX10_line_525 : decode cX10_line 525 = .ok (.iload 6, 2) := by decide +kernel
theorem dX10_line_527 : decode cX10_line 527 = .ok (.aload_n 0, 1) := by decide +kernel
theorem dX10_line_528 : decode cX10_line 528 = .ok (.iconst 1, 1) := by decide +kernel
theorem dX10_line_529 : decode cX10_line 529 = .ok (.bipush 20, 2) := by decide +kernel
theorem dX10_line_531 : decode cX10_line 531 = .ok (.invokevirtual 338, 3) := by decide +kernel
theorem dX10_line_534 : decode cX10_line 534 = .ok (.iastore, 1) := by decide +kernel
theorem dX10_line_535 : decode cX10_line 535 = .ok (.aload_n 0, 1) := by decide +kernel
theorem dX10_line_536 : decode cX10_line 536 = .ok (.bipush 6, 2) := by decide +kernel
theorem dX10_line_538 : decode cX10_line 538 = .ok (.aload_n 0, 1) := by decide +kernel
theorem dX10_line_539 : decode cX10_line 539 = .ok (.bipush 6, 2) := by decide +kernel
theorem dX10_line_541 : decode cX10_line 541 = .ok (.invokevirtual 305, 3) := by decide +kernel
theorem dX10_line_544 : decode cX10_line 544 = .ok (.iconst 1, 1) := by decide +kernel
theorem dX10_line_545 : decode cX10_line 545 = .ok (.iadd, 1) := by decide +kernel
theorem dX10_line_546 : decode cX10_line 546 = .ok (.invokevirtual 331, 3) := by decide +kernel
theorem dX10_line_549 : decode cX10_line 549 = .ok (.goto 122, 3) := by decide +kernel
theorem dX10_line_552 : decode cX10_line 552 = .ok (.aload_n 0, 1) := by decide +kernel
theorem dX10_line_553 : decode cX10_line 553 = .ok (.invokevirtual 313, 3) := by decide +kernel
theorem dX10_line_556 : decode cX10_line 556 = .ok (.istore 7, 2) := by decide +kernel
theorem dX10_line_558 : decode cX10_line 558 = .ok (.aload_n 0, 1) := by decide +kernel
theorem dX10_line_559 : decode cX10_line 559 = .ok (.getfield 289, 3) := by decide +kernel
theorem dX10_line_562 : decode cX10_line 562 = .ok (.ifCond .ne 21, 3) := by decide +kernel
theorem dX10_line_565 : decode cX10_line 565 = .ok (.aload_n 0, 1) := by decide +kernel
theorem dX10_line_566 : decode cX10_line 566 = .ok (.getfield 88, 3) := by decide +kernel
theorem dX10_line_569 : decode cX10_line 569 = .ok (.bipush 6, 2) := by decide +kernel
theorem dX10_line_571 : decode cX10_line 571 = .ok (.iload 7, 2) := by decide +kernel
theorem dX10_line_573 : decode cX10_line 573 = .ok (.iadd, 1) := by decide +kernel
theorem dX10_line_574 : decode cX10_line 574 = .ok (.iaload, 1) := by decide +kernel
theorem dX10_line_575 : decode cX10_line 575 = .ok (.ifCond .le 8, 3) := by decide +kernel
theorem dX10_line_578 : decode cX10_line 578 = .ok (.aload_n 0, 1) := by decide +kernel
theorem dX10_line_579 : decode cX10_line 579 = .ok (.iconst 3, 1) := by decide +kernel
theorem dX10_line_580 : decode cX10_line 580 = .ok (.invokevirtual 298, 3) := by decide +kernel
theorem dX10_line_583 : decode cX10_line 583 = .ok (.aload_n 0, 1) := by decide +kernel
theorem dX10_line_584 : decode cX10_line 584 = .ok (.invokevirtual 316, 3) := by decide +kernel
theorem dX10_line_587 : decode cX10_line 587 = .ok (.aload_n 0, 1) := by decide +kernel
theorem dX10_line_588 : decode cX10_line 588 = .ok (.iconst 1, 1) := by decide +kernel
theorem dX10_line_589 : decode cX10_line 589 = .ok (.bipush 20, 2) := by decide +kernel
theorem dX10_line_591 : decode cX10_line 591 = .ok (.invokevirtual 338, 3) := by decide +kernel
theorem dX10_line_594 : decode cX10_line 594 = .ok (.istore 8, 2) := by decide +kernel
theorem dX10_line_596 : decode cX10_line 596 = .ok (.aload_n 0, 1) := by decide +kernel
theorem dX10_line_597 : decode cX10_line 597 = .ok (.getfield 289, 3) := by decide +kernel
theorem dX10_line_600 : decode cX10_line 600 = .ok (.ifCond .ne 71, 3) := by decide +kernel
theorem dX10_line_603 : decode cX10_line 603 = .ok (.aload_n 0, 1) := by decide +kernel
theorem dX10_line_604 : decode cX10_line 604 = .ok (.getfield 88, 3) := by decide +kernel
theorem dX10_line_607 : decode cX10_line 607 = .ok (.bipush 6, 2) := by decide +kernel
theorem dX10_line_609 : decode cX10_line 609 = .ok (.iload 7, 2) := by decide +kernel
theorem dX10_line_611 : decode cX10_line 611 = .ok (.iadd, 1) := by decide +kernel
theorem dX10_line_612 : decode cX10_line 612 = .ok (.iload 8, 2) := by decide +kernel
theorem dX10_line_614 : decode cX10_line 614 = .ok (.iastore, 1) := by decide +kernel
theorem dX10_line_615 : decode cX10_line 615 = .ok (.goto 56, 3) := by decide +kernel
theorem dX10_line_618 : decode cX10_line 618 = .ok (.aload_n 0, 1) := by decide +kernel
theorem dX10_line_619 : decode cX10_line 619 = .ok (.bipush 7, 2) := by decide +kernel
theorem dX10_line_621 : decode cX10_line 621 = .ok (.aload_n 0, 1) := by decide +kernel
theorem dX10_line_622 : decode cX10_line 622 = .ok (.iconst 1, 1) := by decide +kernel
theorem dX10_line_623 : decode cX10_line 623 = .ok (.bipush 9, 2) := by decide +kernel
theorem dX10_line_625 : decode cX10_line 625 = .ok (.invokevirtual 338, 3) := by decide +kernel
theorem dX10_line_628 : decode cX10_line 628 = .ok (.invokevirtual 331, 3) := by decide +kernel
theorem dX10_line_631 : decode cX10_line 631 = .ok (.goto 40, 3) := by decide +kernel
theorem dX10_line_634 : decode cX10_line 634 = .ok (.aload_n 0, 1) := by decide +kernel
theorem dX10_line_635 : decode cX10_line 635 = .ok (.bipush 8, 2) := by decide +kernel
theorem dX10_line_637 : decode cX10_line 637 = .ok (.aload_n 0, 1) := by decide +kernel
theorem dX10_line_638 : decode cX10_line 638 = .ok (.iconst 0, 1) := by decide +kernel
theorem dX10_line_639 : decode cX10_line 639 = .ok (.bipush 9, 2) := by decide +kernel
theorem dX10_line_641 : decode cX10_line 641 = .ok (.invokevirtual 338, 3) := by decide +kernel
theorem dX10_line_644 : decode cX10_line 644 = .ok (.invokevirtual 331, 3) := by decide +kernel
theorem dX10_line_647 : decode cX10_line 647 = .ok (.goto 24, 3) := by decide +kernel
theorem dX10_line_650 : decode cX10_line 650 = .ok (.aload_n 0, 1) := by decide +kernel
theorem dX10_line_651 : decode cX10_line 651 = .ok (.bipush 9, 2) := by decide +kernel
theorem dX10_line_653 : decode cX10_line 653 = .ok (.aload_n 0, 1) := by decide +kernel
theorem dX10_line_654 : decode cX10_line 654 = .ok (.iconst 0, 1) := by decide +kernel
theorem dX10_line_655 : decode cX10_line 655 = .ok (.ldc_w 273, 3) := by decide +kernel
theorem dX10_line_658 : decode cX10_line 658 = .ok (.invokevirtual 338, 3) := by decide +kernel
theorem dX10_line_661 : decode cX10_line 661 = .ok (.invokevirtual 331, 3) := by decide +kernel
theorem dX10_line_664 : decode cX10_line 664 = .ok (.goto 7, 3) := by decide +kernel
theorem dX10_line_667 : decode cX10_line 667 = .ok (.aload_n 0, 1) := by decide +kernel
theorem dX10_line_668 : decode cX10_line 668 = .ok (.invokevirtual 354, 3) := by decide +kernel
theorem dX10_line_671 : decode cX10_line 671 = .ok (.aload_n 0, 1) := by decide +kernel
theorem dX10_line_672 : decode cX10_line 672 = .ok (.getfield 289, 3) := by decide +kernel
theorem dX10_line_675 : decode cX10_line 675 = .ok (.ifCond .eq 4, 3) := by decide +kernel
theorem dX10_line_678 : decode cX10_line 678 = .ok (.return_, 1) := by decide +kernel
theorem dX10_line_679 : decode cX10_line 679 = .ok (.aload_n 0, 1) := by decide +kernel
theorem dX10_line_680 : decode cX10_line 680 = .ok (.bipush 59, 2) := by decide +kernel
theorem dX10_line_682 : decode cX10_line 682 = .ok (.invokevirtual 357, 3) := by decide +kernel
theorem dX10_line_685 : decode cX10_line 685 = .ok (.ifCond .ne 11, 3) := by decide +kernel
theorem dX10_line_688 : decode cX10_line 688 = .ok (.aload_n 0, 1) := by decide +kernel
theorem dX10_line_689 : decode cX10_line 689 = .ok (.iconst 1, 1) := by decide +kernel
theorem dX10_line_690 : decode cX10_line 690 = .ok (.invokevirtual 298, 3) := by decide +kernel
theorem dX10_line_693 : decode cX10_line 693 = .ok (.goto 7, 3) := by decide +kernel
theorem dX10_line_696 : decode cX10_line 696 = .ok (.aload_n 0, 1) := by decide +kernel
theorem dX10_line_697 : decode cX10_line 697 = .ok (.invokevirtual 295, 3) := by decide +kernel
theorem dX10_line_700 : decode cX10_line 700 = .ok (.aload_n 0, 1) := by decide +kernel
theorem dX10_line_701 : decode cX10_line 701 = .ok (.dup, 1) := by decide +kernel
theorem dX10_line_702 : decode cX10_line 702 = .ok (.getfield 360, 3) := by decide +kernel
theorem dX10_line_705 : decode cX10_line 705 = .ok (.iconst 1, 1) := by decide +kernel
theorem dX10_line_706 : decode cX10_line 706 = .ok (.iadd, 1) := by decide +kernel
theorem dX10_line_707 : decode cX10_line 707 = .ok (.putfield 360, 3) := by decide +kernel
theorem dX10_line_710 : decode cX10_line 710 = .ok (.return_, 1) := by decide +kernel
theorem dX10_linkLine_0 : decode cX10_linkLine 0 = .ok (.aload_n 0, 1) := by decide +kernel
theorem dX10_linkLine_1 : decode cX10_linkLine 1 = .ok (.invokevirtual 351, 3) := by decide +kernel
theorem dX10_linkLine_4 : decode cX10_linkLine 4 = .ok (.istore_n 2, 1) := by decide +kernel
theorem dX10_linkLine_5 : decode cX10_linkLine 5 = .ok (.aload_n 0, 1) := by decide +kernel
theorem dX10_linkLine_6 : decode cX10_linkLine 6 = .ok (.invokevirtual 313, 3) := by decide +kernel
theorem dX10_linkLine_9 : decode cX10_linkLine 9 = .ok (.istore_n 3, 1) := by decide +kernel
theorem dX10_linkLine_10 : decode cX10_linkLine 10 = .ok (.bipush 9, 2) := by decide +kernel
theorem dX10_linkLine_12 : decode cX10_linkLine 12 = .ok (.istore 4, 2) := by decide +kernel
theorem dX10_linkLine_14 : decode cX10_linkLine 14 = .ok (.iload 4, 2) := by decide +kernel
theorem dX10_linkLine_16 : decode cX10_linkLine 16 = .ok (.iload_n 1, 1) := by decide +kernel
theorem dX10_linkLine_17 : decode cX10_linkLine 17 = .ok (.if_icmp .ge 65, 3) := by decide +kernel
theorem dX10_linkLine_20 : decode cX10_linkLine 20 = .ok (.aload_n 0, 1) := by decide +kernel
theorem dX10_linkLine_21 : decode cX10_linkLine 21 = .ok (.getfield 289, 3) := by decide +kernel
theorem dX10_linkLine_24 : decode cX10_linkLine 24 = .ok (.ifCond .ne 58, 3) := by decide +kernel
theorem dX10_linkLine_27 : decode cX10_linkLine 27 = .ok (.aload_n 0, 1) := by decide +kernel
theorem dX10_linkLine_28 : decode cX10_linkLine 28 = .ok (.getfield 19, 3) := by decide +kernel
theorem dX10_linkLine_31 : decode cX10_linkLine 31 = .ok (.iload 4, 2) := by decide +kernel
theorem dX10_linkLine_33 : decode cX10_linkLine 33 = .ok (.iaload, 1) := by decide +kernel
theorem dX10_linkLine_34 : decode cX10_linkLine 34 = .ok (.iload_n 2, 1) := by decide +kernel
theorem dX10_linkLine_35 : decode cX10_linkLine 35 = .ok (.if_icmp .ne 14, 3) := by decide +kernel
theorem dX10_linkLine_38 : decode cX10_linkLine 38 = .ok (.aload_n 0, 1) := by decide +kernel
theorem dX10_linkLine_39 : decode cX10_linkLine 39 = .ok (.getfield 22, 3) := by decide +kernel
theorem dX10_linkLine_42 : decode cX10_linkLine 42 = .ok (.iload 4, 2) := by decide +kernel
theorem dX10_linkLine_44 : decode cX10_linkLine 44 = .ok (.iaload, 1) := by decide +kernel
theorem dX10_linkLine_45 : decode cX10_linkLine 45 = .ok (.iload_n 3, 1) := by decide +kernel
theorem dX10_linkLine_46 : decode cX10_linkLine 46 = .ok (.if_icmp .eq 25, 3) := by decide +kernel
theorem dX10_linkLine_49 : decode cX10_linkLine 49 = .ok (.aload_n 0, 1) := by decide +kernel
theorem dX10_linkLine_50 : decode cX10_linkLine 50 = .ok (.getfield 19, 3) := by decide +kernel
theorem dX10_linkLine_53 : decode cX10_linkLine 53 = .ok (.iload 4, 2) := by decide +kernel
theorem dX10_linkLine_55 : decode cX10_linkLine 55 = .ok (.iaload, 1) := by decide +kernel
theorem dX10_linkLine_56 : decode cX10_linkLine 56 = .ok (.iload_n 3, 1) := by decide +kernel
theorem dX10_linkLine_57 : decode cX10_linkLine 57 = .ok (.if_icmp .ne 19, 3) := by decide +kernel
theorem dX10_linkLine_60 : decode cX10_linkLine 60 = .ok (.aload_n 0, 1) := by decide +kernel
theorem dX10_linkLine_61 : decode cX10_linkLine 61 = .ok (.getfield 22, 3) := by decide +kernel
theorem dX10_linkLine_64 : decode cX10_linkLine 64 = .ok (.iload 4, 2) := by decide +kernel
theorem dX10_linkLine_66 : decode cX10_linkLine 66 = .ok (.iaload, 1) := by decide +kernel
theorem dX10_linkLine_67 : decode cX10_linkLine 67 = .ok (.iload_n 2, 1) := by decide +kernel
theorem dX10_linkLine_68 : decode cX10_linkLine 68 = .ok (.if_icmp .ne 8, 3) := by decide +kernel
theorem dX10_linkLine_71 : decode cX10_linkLine 71 = .ok (.aload_n 0, 1) := by decide +kernel
theorem dX10_linkLine_72 : decode cX10_linkLine 72 = .ok (.iconst 3, 1) := by decide +kernel
theorem dX10_linkLine_73 : decode cX10_linkLine 73 = .ok (.invokevirtual 298, 3) := by decide +kernel
theorem dX10_linkLine_76 : decode cX10_linkLine 76 = .ok (.iinc 4 1, 3) := by decide +kernel
theorem dX10_linkLine_79 : decode cX10_linkLine 79 = .ok (.goto (-65), 3) := by decide +kernel
theorem dX10_linkLine_82 : decode cX10_linkLine 82 = .ok (.aload_n 0, 1) := by decide +kernel
theorem dX10_linkLine_83 : decode cX10_linkLine 83 = .ok (.getfield 289, 3) := by decide +kernel
theorem dX10_linkLine_86 : decode cX10_linkLine 86 = .ok (.ifCond .ne 13, 3) := by decide +kernel
theorem dX10_linkLine_89 : decode cX10_linkLine 89 = .ok (.iload_n 2, 1) := by decide +kernel
theorem dX10_linkLine_90 : decode cX10_linkLine 90 = .ok (.iload_n 3, 1) := by decide +kernel
theorem dX10_linkLine_91 : decode cX10_linkLine 91 = .ok (.if_icmp .ne 8, 3) := by decide +kernel
theorem dX10_linkLine_94 : decode cX10_linkLine 94 = .ok (.aload_n 0, 1) := by decide +kernel
theorem dX10_linkLine_95 : decode cX10_linkLine 95 = .ok (.iconst 5, 1) := by decide +kernel
theorem dX10_linkLine_96 : decode cX10_linkLine 96 = .ok (.invokevirtual 298, 3) := by decide +kernel
theorem dX10_linkLine_99 : decode cX10_linkLine 99 = .ok (.aload_n 0, 1) := by decide +kernel
theorem dX10_linkLine_100 : decode cX10_linkLine 100 = .ok (.invokevirtual 316, 3) := by decide +kernel
theorem dX10_linkLine_103 : decode cX10_linkLine 103 = .ok (.aload_n 0, 1) := by decide +kernel
theorem dX10_linkLine_104 : decode cX10_linkLine 104 = .ok (.getfield 19, 3) := by decide +kernel
theorem dX10_linkLine_107 : decode cX10_linkLine 107 = .ok (.iload_n 1, 1) := by decide +kernel
theorem dX10_linkLine_108 : decode cX10_linkLine 108 = .ok (.iload_n 2, 1) := by decide +kernel
theorem dX10_linkLine_109 : decode cX10_linkLine 109 = .ok (.iastore, 1) := by decide +kernel
theorem dX10_linkLine_110 : decode cX10_linkLine 110 = .ok (.aload_n 0, 1) := by decide +kernel
theorem dX10_linkLine_111 : decode cX10_linkLine 111 = .ok (.getfield 22, 3) := by decide +kernel
theorem dX10_linkLine_114 : decode cX10_linkLine 114 = .ok (.iload_n 1, 1) := by decide +kernel
theorem dX10_linkLine_115 : decode cX10_linkLine 115 = .ok (.iload_n 3, 1) := by decide +kernel
theorem dX10_linkLine_116 : decode cX10_linkLine 116 = .ok (.iastore, 1) := by decide +kernel
theorem dX10_linkLine_117 : decode cX10_linkLine 117 = .ok (.aload_n 0, 1) := by decide +kernel
theorem dX10_linkLine_118 : decode cX10_linkLine 118 = .ok (.getfield 25, 3) := by decide +kernel
theorem dX10_linkLine_121 : decode cX10_linkLine 121 = .ok (.iload_n 1, 1) := by decide +kernel
theorem dX10_linkLine_122 : decode cX10_linkLine 122 = .ok (.aload_n 0, 1) := by decide +kernel
theorem dX10_linkLine_123 : decode cX10_linkLine 123 = .ok (.iconst 1, 1) := by decide +kernel
theorem dX10_linkLine_124 : decode cX10_linkLine 124 = .ok (.bipush 9, 2) := by decide +kernel
theorem dX10_linkLine_126 : decode cX10_linkLine 126 = .ok (.invokevirtual 338, 3) := by decide +kernel
theorem dX10_linkLine_129 : decode cX10_linkLine 129 = .ok (.iastore, 1) := by decide +kernel
theorem dX10_linkLine_130 : decode cX10_linkLine 130 = .ok (.aload_n 0, 1) := by decide +kernel
theorem dX10_linkLine_131 : decode cX10_linkLine 131 = .ok (.iconst 1, 1) := by decide +kernel
theorem dX10_linkLine_132 : decode cX10_linkLine 132 = .ok (.aload_n 0, 1) := by decide +kernel
theorem dX10_linkLine_133 : decode cX10_linkLine 133 = .ok (.iconst 1, 1) := by decide +kernel
theorem dX10_linkLine_134 : decode cX10_linkLine 134 = .ok (.invokevirtual 305, 3) := by decide +kernel
theorem dX10_linkLine_137 : decode cX10_linkLine 137 = .ok (.iconst 1, 1) := by decide +kernel
theorem dX10_linkLine_138 : decode cX10_linkLine 138 = .ok (.iadd, 1) := by decide +kernel
theorem dX10_linkLine_139 : decode cX10_linkLine 139 = .ok (.invokevirtual 331, 3) := by decide +kernel
theorem dX10_linkLine_142 : decode cX10_linkLine 142 = .ok (.return_, 1) := by decide +kernel
theorem dX10_heirLine_0 : decode cX10_heirLine 0 = .ok (.aload_n 0, 1) := by decide +kernel
theorem dX10_heirLine_1 : decode cX10_heirLine 1 = .ok (.invokevirtual 319, 3) := by decide +kernel
theorem dX10_heirLine_4 : decode cX10_heirLine 4 = .ok (.istore_n 1, 1) := by decide +kernel
theorem dX10_heirLine_5 : decode cX10_heirLine 5 = .ok (.aload_n 0, 1) := by decide +kernel
theorem dX10_heirLine_6 : decode cX10_heirLine 6 = .ok (.getfield 289, 3) := by decide +kernel
theorem dX10_heirLine_9 : decode cX10_heirLine 9 = .ok (.ifCond .ne 19, 3) := by decide +kernel
theorem dX10_heirLine_12 : decode cX10_heirLine 12 = .ok (.aload_n 0, 1) := by decide +kernel
theorem dX10_heirLine_13 : decode cX10_heirLine 13 = .ok (.getfield 34, 3) := by decide +kernel
theorem dX10_heirLine_16 : decode cX10_heirLine 16 = .ok (.iconst 4, 1) := by decide +kernel
theorem dX10_heirLine_17 : decode cX10_heirLine 17 = .ok (.iload_n 1, 1) := by decide +kernel
theorem dX10_heirLine_18 : decode cX10_heirLine 18 = .ok (.iadd, 1) := by decide +kernel
theorem dX10_heirLine_19 : decode cX10_heirLine 19 = .ok (.iaload, 1) := by decide +kernel
theorem dX10_heirLine_20 : decode cX10_heirLine 20 = .ok (.ifCond .le 8, 3) := by decide +kernel
theorem dX10_heirLine_23 : decode cX10_heirLine 23 = .ok (.aload_n 0, 1) := by decide +kernel
theorem dX10_heirLine_24 : decode cX10_heirLine 24 = .ok (.iconst 3, 1) := by decide +kernel
theorem dX10_heirLine_25 : decode cX10_heirLine 25 = .ok (.invokevirtual 298, 3) := by decide +kernel
theorem dX10_heirLine_28 : decode cX10_heirLine 28 = .ok (.aload_n 0, 1) := by decide +kernel
theorem dX10_heirLine_29 : decode cX10_heirLine 29 = .ok (.invokevirtual 316, 3) := by decide +kernel
theorem dX10_heirLine_32 : decode cX10_heirLine 32 = .ok (.aload_n 0, 1) := by decide +kernel
theorem dX10_heirLine_33 : decode cX10_heirLine 33 = .ok (.invokevirtual 319, 3) := by decide +kernel
theorem dX10_heirLine_36 : decode cX10_heirLine 36 = .ok (.istore_n 2, 1) := by decide +kernel
theorem dX10_heirLine_37 : decode cX10_heirLine 37 = .ok (.aload_n 0, 1) := by decide +kernel
theorem dX10_heirLine_38 : decode cX10_heirLine 38 = .ok (.getfield 289, 3) := by decide +kernel
theorem dX10_heirLine_41 : decode cX10_heirLine 41 = .ok (.ifCond .ne 13, 3) := by decide +kernel
theorem dX10_heirLine_44 : decode cX10_heirLine 44 = .ok (.iload_n 1, 1) := by decide +kernel
theorem dX10_heirLine_45 : decode cX10_heirLine 45 = .ok (.iload_n 2, 1) := by decide +kernel
theorem dX10_heirLine_46 : decode cX10_heirLine 46 = .ok (.if_icmp .ne 8, 3) := by decide +kernel
theorem dX10_heirLine_49 : decode cX10_heirLine 49 = .ok (.aload_n 0, 1) := by decide +kernel
theorem dX10_heirLine_50 : decode cX10_heirLine 50 = .ok (.iconst 5, 1) := by decide +kernel
theorem dX10_heirLine_51 : decode cX10_heirLine 51 = .ok (.invokevirtual 298, 3) := by decide +kernel
theorem dX10_heirLine_54 : decode cX10_heirLine 54 = .ok (.aload_n 0, 1) := by decide +kernel
theorem dX10_heirLine_55 : decode cX10_heirLine 55 = .ok (.getfield 289, 3) := by decide +kernel
theorem dX10_heirLine_58 : decode cX10_heirLine 58 = .ok (.ifCond .eq 4, 3) := by decide +kernel
theorem dX10_heirLine_61 : decode cX10_heirLine 61 = .ok (.return_, 1) := by decide +kernel
theorem dX10_heirLine_62 : decode cX10_heirLine 62 = .ok (.aload_n 0, 1) := by decide +kernel
theorem dX10_heirLine_63 : decode cX10_heirLine 63 = .ok (.getfield 34, 3) := by decide +kernel
theorem dX10_heirLine_66 : decode cX10_heirLine 66 = .ok (.iconst 4, 1) := by decide +kernel
theorem dX10_heirLine_67 : decode cX10_heirLine 67 = .ok (.iload_n 1, 1) := by decide +kernel
theorem dX10_heirLine_68 : decode cX10_heirLine 68 = .ok (.iadd, 1) := by decide +kernel
theorem dX10_heirLine_69 : decode cX10_heirLine 69 = .ok (.iload_n 2, 1) := by decide +kernel
theorem dX10_heirLine_70 : decode cX10_heirLine 70 = .ok (.iconst 1, 1) := by decide +kernel
theorem dX10_heirLine_71 : decode cX10_heirLine 71 = .ok (.iadd, 1) := by decide +kernel
theorem dX10_heirLine_72 : decode cX10_heirLine 72 = .ok (.iastore, 1) := by decide +kernel
theorem dX10_heirLine_73 : decode cX10_heirLine 73 = .ok (.aload_n 0, 1) := by decide +kernel
theorem dX10_heirLine_74 : decode cX10_heirLine 74 = .ok (.invokevirtual 295, 3) := by decide +kernel
theorem dX10_heirLine_77 : decode cX10_heirLine 77 = .ok (.return_, 1) := by decide +kernel
theorem dX10_noiseLine_0 : decode cX10_noiseLine 0 = .ok (.aload_n 0, 1) := by decide +kernel
theorem dX10_noiseLine_1 : decode cX10_noiseLine 1 = .ok (.getfield 37, 3) := by decide +kernel
theorem dX10_noiseLine_4 : decode cX10_noiseLine 4 = .ok (.iload_n 1, 1) := by decide +kernel
theorem dX10_noiseLine_5 : decode cX10_noiseLine 5 = .ok (.aload_n 0, 1) := by decide +kernel
theorem dX10_noiseLine_6 : decode cX10_noiseLine 6 = .ok (.invokevirtual 351, 3) := by decide +kernel
theorem dX10_noiseLine_9 : decode cX10_noiseLine 9 = .ok (.iastore, 1) := by decide +kernel
theorem dX10_noiseLine_10 : decode cX10_noiseLine 10 = .ok (.aload_n 0, 1) := by decide +kernel
theorem dX10_noiseLine_11 : decode cX10_noiseLine 11 = .ok (.getfield 40, 3) := by decide +kernel
theorem dX10_noiseLine_14 : decode cX10_noiseLine 14 = .ok (.iload_n 1, 1) := by decide +kernel
theorem dX10_noiseLine_15 : decode cX10_noiseLine 15 = .ok (.aload_n 0, 1) := by decide +kernel
theorem dX10_noiseLine_16 : decode cX10_noiseLine 16 = .ok (.invokevirtual 348, 3) := by decide +kernel
theorem dX10_noiseLine_19 : decode cX10_noiseLine 19 = .ok (.iastore, 1) := by decide +kernel
theorem dX10_noiseLine_20 : decode cX10_noiseLine 20 = .ok (.aload_n 0, 1) := by decide +kernel
theorem dX10_noiseLine_21 : decode cX10_noiseLine 21 = .ok (.getfield 43, 3) := by decide +kernel
theorem dX10_noiseLine_24 : decode cX10_noiseLine 24 = .ok (.iload_n 1, 1) := by decide +kernel
theorem dX10_noiseLine_25 : decode cX10_noiseLine 25 = .ok (.aload_n 0, 1) := by decide +kernel
theorem dX10_noiseLine_26 : decode cX10_noiseLine 26 = .ok (.iconst 0, 1) := by decide +kernel
theorem dX10_noiseLine_27 : decode cX10_noiseLine 27 = .ok (.bipush 47, 2) := by decide +kernel
theorem dX10_noiseLine_29 : decode cX10_noiseLine 29 = .ok (.invokevirtual 338, 3) := by decide +kernel
theorem dX10_noiseLine_32 : decode cX10_noiseLine 32 = .ok (.iastore, 1) := by decide +kernel
theorem dX10_noiseLine_33 : decode cX10_noiseLine 33 = .ok (.aload_n 0, 1) := by decide +kernel
theorem dX10_noiseLine_34 : decode cX10_noiseLine 34 = .ok (.getfield 46, 3) := by decide +kernel
theorem dX10_noiseLine_37 : decode cX10_noiseLine 37 = .ok (.iload_n 1, 1) := by decide +kernel
theorem dX10_noiseLine_38 : decode cX10_noiseLine 38 = .ok (.aload_n 0, 1) := by decide +kernel
theorem dX10_noiseLine_39 : decode cX10_noiseLine 39 = .ok (.aload_n 0, 1) := by decide +kernel
theorem dX10_noiseLine_40 : decode cX10_noiseLine 40 = .ok (.getfield 43, 3) := by decide +kernel
theorem dX10_noiseLine_43 : decode cX10_noiseLine 43 = .ok (.iload_n 1, 1) := by decide +kernel
theorem dX10_noiseLine_44 : decode cX10_noiseLine 44 = .ok (.iaload, 1) := by decide +kernel
theorem dX10_noiseLine_45 : decode cX10_noiseLine 45 = .ok (.bipush 47, 2) := by decide +kernel
theorem dX10_noiseLine_47 : decode cX10_noiseLine 47 = .ok (.invokevirtual 338, 3) := by decide +kernel
theorem dX10_noiseLine_50 : decode cX10_noiseLine 50 = .ok (.iastore, 1) := by decide +kernel
theorem dX10_noiseLine_51 : decode cX10_noiseLine 51 = .ok (.aload_n 0, 1) := by decide +kernel
theorem dX10_noiseLine_52 : decode cX10_noiseLine 52 = .ok (.getfield 49, 3) := by decide +kernel
theorem dX10_noiseLine_55 : decode cX10_noiseLine 55 = .ok (.iload_n 1, 1) := by decide +kernel
theorem dX10_noiseLine_56 : decode cX10_noiseLine 56 = .ok (.aload_n 0, 1) := by decide +kernel
theorem dX10_noiseLine_57 : decode cX10_noiseLine 57 = .ok (.iconst 1, 1) := by decide +kernel
theorem dX10_noiseLine_58 : decode cX10_noiseLine 58 = .ok (.bipush 20, 2) := by decide +kernel
theorem dX10_noiseLine_60 : decode cX10_noiseLine 60 = .ok (.invokevirtual 338, 3) := by decide +kernel
theorem dX10_noiseLine_63 : decode cX10_noiseLine 63 = .ok (.iastore, 1) := by decide +kernel
theorem dX10_noiseLine_64 : decode cX10_noiseLine 64 = .ok (.aload_n 0, 1) := by decide +kernel
theorem dX10_noiseLine_65 : decode cX10_noiseLine 65 = .ok (.iconst 3, 1) := by decide +kernel
theorem dX10_noiseLine_66 : decode cX10_noiseLine 66 = .ok (.aload_n 0, 1) := by decide +kernel
theorem dX10_noiseLine_67 : decode cX10_noiseLine 67 = .ok (.iconst 3, 1) := by decide +kernel
theorem dX10_noiseLine_68 : decode cX10_noiseLine 68 = .ok (.invokevirtual 305, 3) := by decide +kernel
theorem dX10_noiseLine_71 : decode cX10_noiseLine 71 = .ok (.iconst 1, 1) := by decide +kernel
theorem dX10_noiseLine_72 : decode cX10_noiseLine 72 = .ok (.iadd, 1) := by decide +kernel
theorem dX10_noiseLine_73 : decode cX10_noiseLine 73 = .ok (.invokevirtual 331, 3) := by decide +kernel
theorem dX10_noiseLine_76 : decode cX10_noiseLine 76 = .ok (.return_, 1) := by decide +kernel
theorem dX10_lawLine_0 : decode cX10_lawLine 0 = .ok (.aload_n 0, 1) := by decide +kernel
theorem dX10_lawLine_1 : decode cX10_lawLine 1 = .ok (.getfield 254, 3) := by decide +kernel
theorem dX10_lawLine_4 : decode cX10_lawLine 4 = .ok (.ifCond .ne 21, 3) := by decide +kernel
theorem dX10_lawLine_7 : decode cX10_lawLine 7 = .ok (.aload_n 0, 1) := by decide +kernel
theorem dX10_lawLine_8 : decode cX10_lawLine 8 = .ok (.getfield 264, 3) := by decide +kernel
theorem dX10_lawLine_11 : decode cX10_lawLine 11 = .ok (.bipush 13, 2) := by decide +kernel
theorem dX10_lawLine_13 : decode cX10_lawLine 13 = .ok (.if_icmp .eq 17, 3) := by decide +kernel
theorem dX10_lawLine_16 : decode cX10_lawLine 16 = .ok (.aload_n 0, 1) := by decide +kernel
theorem dX10_lawLine_17 : decode cX10_lawLine 17 = .ok (.getfield 264, 3) := by decide +kernel
theorem dX10_lawLine_20 : decode cX10_lawLine 20 = .ok (.bipush 14, 2) := by decide +kernel
theorem dX10_lawLine_22 : decode cX10_lawLine 22 = .ok (.if_icmp .eq 8, 3) := by decide +kernel
theorem dX10_lawLine_25 : decode cX10_lawLine 25 = .ok (.aload_n 0, 1) := by decide +kernel
theorem dX10_lawLine_26 : decode cX10_lawLine 26 = .ok (.iconst 1, 1) := by decide +kernel
theorem dX10_lawLine_27 : decode cX10_lawLine 27 = .ok (.invokevirtual 298, 3) := by decide +kernel
theorem dX10_lawLine_30 : decode cX10_lawLine 30 = .ok (.aload_n 0, 1) := by decide +kernel
theorem dX10_lawLine_31 : decode cX10_lawLine 31 = .ok (.getfield 264, 3) := by decide +kernel
theorem dX10_lawLine_34 : decode cX10_lawLine 34 = .ok (.bipush 13, 2) := by decide +kernel
theorem dX10_lawLine_36 : decode cX10_lawLine 36 = .ok (.isub, 1) := by decide +kernel
theorem dX10_lawLine_37 : decode cX10_lawLine 37 = .ok (.istore_n 1, 1) := by decide +kernel
theorem dX10_lawLine_38 : decode cX10_lawLine 38 = .ok (.aload_n 0, 1) := by decide +kernel
theorem dX10_lawLine_39 : decode cX10_lawLine 39 = .ok (.getfield 289, 3) := by decide +kernel
theorem dX10_lawLine_42 : decode cX10_lawLine 42 = .ok (.ifCond .ne 23, 3) := by decide +kernel
theorem dX10_lawLine_45 : decode cX10_lawLine 45 = .ok (.aload_n 0, 1) := by decide +kernel
theorem dX10_lawLine_46 : decode cX10_lawLine 46 = .ok (.getfield 325, 3) := by decide +kernel
theorem dX10_lawLine_49 : decode cX10_lawLine 49 = .ok (.bipush 16, 2) := by decide +kernel
theorem dX10_lawLine_51 : decode cX10_lawLine 51 = .ok (.iload_n 1, 1) := by decide +kernel
theorem dX10_lawLine_52 : decode cX10_lawLine 52 = .ok (.iadd, 1) := by decide +kernel
theorem dX10_lawLine_53 : decode cX10_lawLine 53 = .ok (.ishr, 1) := by decide +kernel
theorem dX10_lawLine_54 : decode cX10_lawLine 54 = .ok (.iconst 1, 1) := by decide +kernel
theorem dX10_lawLine_55 : decode cX10_lawLine 55 = .ok (.iand, 1) := by decide +kernel
theorem dX10_lawLine_56 : decode cX10_lawLine 56 = .ok (.iconst 1, 1) := by decide +kernel
theorem dX10_lawLine_57 : decode cX10_lawLine 57 = .ok (.if_icmp .ne 8, 3) := by decide +kernel
theorem dX10_lawLine_60 : decode cX10_lawLine 60 = .ok (.aload_n 0, 1) := by decide +kernel
theorem dX10_lawLine_61 : decode cX10_lawLine 61 = .ok (.iconst 3, 1) := by decide +kernel
theorem dX10_lawLine_62 : decode cX10_lawLine 62 = .ok (.invokevirtual 298, 3) := by decide +kernel
theorem dX10_lawLine_65 : decode cX10_lawLine 65 = .ok (.aload_n 0, 1) := by decide +kernel
theorem dX10_lawLine_66 : decode cX10_lawLine 66 = .ok (.getfield 289, 3) := by decide +kernel
theorem dX10_lawLine_69 : decode cX10_lawLine 69 = .ok (.ifCond .eq 4, 3) := by decide +kernel
theorem dX10_lawLine_72 : decode cX10_lawLine 72 = .ok (.return_, 1) := by decide +kernel
theorem dX10_lawLine_73 : decode cX10_lawLine 73 = .ok (.aload_n 0, 1) := by decide +kernel
theorem dX10_lawLine_74 : decode cX10_lawLine 74 = .ok (.dup, 1) := by decide +kernel
theorem dX10_lawLine_75 : decode cX10_lawLine 75 = .ok (.getfield 325, 3) := by decide +kernel
theorem dX10_lawLine_78 : decode cX10_lawLine 78 = .ok (.iconst 1, 1) := by decide +kernel
theorem dX10_lawLine_79 : decode cX10_lawLine 79 = .ok (.bipush 16, 2) := by decide +kernel
theorem dX10_lawLine_81 : decode cX10_lawLine 81 = .ok (.iload_n 1, 1) := by decide +kernel
theorem dX10_lawLine_82 : decode cX10_lawLine 82 = .ok (.iadd, 1) := by decide +kernel
theorem dX10_lawLine_83 : decode cX10_lawLine 83 = .ok (.ishl, 1) := by decide +kernel
theorem dX10_lawLine_84 : decode cX10_lawLine 84 = .ok (.ior, 1) := by decide +kernel
theorem dX10_lawLine_85 : decode cX10_lawLine 85 = .ok (.putfield 325, 3) := by decide +kernel
theorem dX10_lawLine_88 : decode cX10_lawLine 88 = .ok (.aload_n 0, 1) := by decide +kernel
theorem dX10_lawLine_89 : decode cX10_lawLine 89 = .ok (.invokevirtual 295, 3) := by decide +kernel
theorem dX10_lawLine_92 : decode cX10_lawLine 92 = .ok (.aload_n 0, 1) := by decide +kernel
theorem dX10_lawLine_93 : decode cX10_lawLine 93 = .ok (.getfield 91, 3) := by decide +kernel
theorem dX10_lawLine_96 : decode cX10_lawLine 96 = .ok (.iconst 2, 1) := by decide +kernel
theorem dX10_lawLine_97 : decode cX10_lawLine 97 = .ok (.iload_n 1, 1) := by decide +kernel
theorem dX10_lawLine_98 : decode cX10_lawLine 98 = .ok (.iadd, 1) := by decide +kernel
theorem dX10_lawLine_99 : decode cX10_lawLine 99 = .ok (.aload_n 0, 1) := by decide +kernel
theorem dX10_lawLine_100 : decode cX10_lawLine 100 = .ok (.bipush 10, 2) := by decide +kernel
theorem dX10_lawLine_102 : decode cX10_lawLine 102 = .ok (.invokevirtual 305, 3) := by decide +kernel
theorem dX10_lawLine_105 : decode cX10_lawLine 105 = .ok (.iastore, 1) := by decide +kernel
theorem dX10_lawLine_106 : decode cX10_lawLine 106 = .ok (.aload_n 0, 1) := by decide +kernel
theorem dX10_lawLine_107 : decode cX10_lawLine 107 = .ok (.invokevirtual 363, 3) := by decide +kernel
theorem dX10_lawLine_110 : decode cX10_lawLine 110 = .ok (.aload_n 0, 1) := by decide +kernel
theorem dX10_lawLine_111 : decode cX10_lawLine 111 = .ok (.getfield 94, 3) := by decide +kernel
theorem dX10_lawLine_114 : decode cX10_lawLine 114 = .ok (.iconst 2, 1) := by decide +kernel
theorem dX10_lawLine_115 : decode cX10_lawLine 115 = .ok (.iload_n 1, 1) := by decide +kernel
theorem dX10_lawLine_116 : decode cX10_lawLine 116 = .ok (.iadd, 1) := by decide +kernel
theorem dX10_lawLine_117 : decode cX10_lawLine 117 = .ok (.aload_n 0, 1) := by decide +kernel
theorem dX10_lawLine_118 : decode cX10_lawLine 118 = .ok (.bipush 10, 2) := by decide +kernel
theorem dX10_lawLine_120 : decode cX10_lawLine 120 = .ok (.invokevirtual 305, 3) := by decide +kernel
theorem dX10_lawLine_123 : decode cX10_lawLine 123 = .ok (.iastore, 1) := by decide +kernel
theorem dX10_lawLine_124 : decode cX10_lawLine 124 = .ok (.return_, 1) := by decide +kernel
theorem dX10_puts_0 : decode cX10_puts 0 = .ok (.aload_n 0, 1) := by decide +kernel
theorem dX10_puts_1 : decode cX10_puts 1 = .ok (.getfield 289, 3) := by decide +kernel
theorem dX10_puts_4 : decode cX10_puts 4 = .ok (.ifCond .eq 4, 3) := by decide +kernel
theorem dX10_puts_7 : decode cX10_puts 7 = .ok (.return_, 1) := by decide +kernel
theorem dX10_puts_8 : decode cX10_puts 8 = .ok (.aload_n 0, 1) := by decide +kernel
theorem dX10_puts_9 : decode cX10_puts 9 = .ok (.getfield 97, 3) := by decide +kernel
theorem dX10_puts_12 : decode cX10_puts 12 = .ok (.bipush 64, 2) := by decide +kernel
theorem dX10_puts_14 : decode cX10_puts 14 = .ok (.aload_n 0, 1) := by decide +kernel
theorem dX10_puts_15 : decode cX10_puts 15 = .ok (.bipush 10, 2) := by decide +kernel
theorem dX10_puts_17 : decode cX10_puts 17 = .ok (.invokevirtual 305, 3) := by decide +kernel
theorem dX10_puts_20 : decode cX10_puts 20 = .ok (.iadd, 1) := by decide +kernel
theorem dX10_puts_21 : decode cX10_puts 21 = .ok (.iload_n 1, 1) := by decide +kernel
theorem dX10_puts_22 : decode cX10_puts 22 = .ok (.iastore, 1) := by decide +kernel
theorem dX10_puts_23 : decode cX10_puts 23 = .ok (.aload_n 0, 1) := by decide +kernel
theorem dX10_puts_24 : decode cX10_puts 24 = .ok (.getfield 100, 3) := by decide +kernel
theorem dX10_puts_27 : decode cX10_puts 27 = .ok (.bipush 64, 2) := by decide +kernel
theorem dX10_puts_29 : decode cX10_puts 29 = .ok (.aload_n 0, 1) := by decide +kernel
theorem dX10_puts_30 : decode cX10_puts 30 = .ok (.bipush 10, 2) := by decide +kernel
theorem dX10_puts_32 : decode cX10_puts 32 = .ok (.invokevirtual 305, 3) := by decide +kernel
theorem dX10_puts_35 : decode cX10_puts 35 = .ok (.iadd, 1) := by decide +kernel
theorem dX10_puts_36 : decode cX10_puts 36 = .ok (.iload_n 2, 1) := by decide +kernel
theorem dX10_puts_37 : decode cX10_puts 37 = .ok (.iastore, 1) := by decide +kernel
theorem dX10_puts_38 : decode cX10_puts 38 = .ok (.aload_n 0, 1) := by decide +kernel
theorem dX10_puts_39 : decode cX10_puts 39 = .ok (.bipush 10, 2) := by decide +kernel
theorem dX10_puts_41 : decode cX10_puts 41 = .ok (.aload_n 0, 1) := by decide +kernel
theorem dX10_puts_42 : decode cX10_puts 42 = .ok (.bipush 10, 2) := by decide +kernel
theorem dX10_puts_44 : decode cX10_puts 44 = .ok (.invokevirtual 305, 3) := by decide +kernel
theorem dX10_puts_47 : decode cX10_puts 47 = .ok (.iconst 1, 1) := by decide +kernel
theorem dX10_puts_48 : decode cX10_puts 48 = .ok (.iadd, 1) := by decide +kernel
theorem dX10_puts_49 : decode cX10_puts 49 = .ok (.invokevirtual 331, 3) := by decide +kernel
theorem dX10_puts_52 : decode cX10_puts 52 = .ok (.return_, 1) := by decide +kernel
theorem dX10_knot_0 : decode cX10_knot 0 = .ok (.aload_n 0, 1) := by decide +kernel
theorem dX10_knot_1 : decode cX10_knot 1 = .ok (.getfield 289, 3) := by decide +kernel
theorem dX10_knot_4 : decode cX10_knot 4 = .ok (.ifCond .eq 4, 3) := by decide +kernel
theorem dX10_knot_7 : decode cX10_knot 7 = .ok (.return_, 1) := by decide +kernel
theorem dX10_knot_8 : decode cX10_knot 8 = .ok (.aload_n 0, 1) := by decide +kernel
theorem dX10_knot_9 : decode cX10_knot 9 = .ok (.getfield 366, 3) := by decide +kernel
theorem dX10_knot_12 : decode cX10_knot 12 = .ok (.bipush 64, 2) := by decide +kernel
theorem dX10_knot_14 : decode cX10_knot 14 = .ok (.if_icmp .ne 11, 3) := by decide +kernel
theorem dX10_knot_17 : decode cX10_knot 17 = .ok (.aload_n 0, 1) := by decide +kernel
theorem dX10_knot_18 : decode cX10_knot 18 = .ok (.iconst 2, 1) := by decide +kernel
theorem dX10_knot_19 : decode cX10_knot 19 = .ok (.invokevirtual 298, 3) := by decide +kernel
theorem dX10_knot_22 : decode cX10_knot 22 = .ok (.goto 13, 3) := by decide +kernel
theorem dX10_knot_25 : decode cX10_knot 25 = .ok (.aload_n 0, 1) := by decide +kernel
theorem dX10_knot_26 : decode cX10_knot 26 = .ok (.dup, 1) := by decide +kernel
theorem dX10_knot_27 : decode cX10_knot 27 = .ok (.getfield 366, 3) := by decide +kernel
theorem dX10_knot_30 : decode cX10_knot 30 = .ok (.iconst 1, 1) := by decide +kernel
theorem dX10_knot_31 : decode cX10_knot 31 = .ok (.iadd, 1) := by decide +kernel
theorem dX10_knot_32 : decode cX10_knot 32 = .ok (.putfield 366, 3) := by decide +kernel
theorem dX10_knot_35 : decode cX10_knot 35 = .ok (.return_, 1) := by decide +kernel
theorem dX10_expression_0 : decode cX10_expression 0 = .ok (.aload_n 0, 1) := by decide +kernel
theorem dX10_expression_1 : decode cX10_expression 1 = .ok (.invokevirtual 369, 3) := by decide +kernel
theorem dX10_expression_4 : decode cX10_expression 4 = .ok (.aload_n 0, 1) := by decide +kernel
theorem dX10_expression_5 : decode cX10_expression 5 = .ok (.bipush 15, 2) := by decide +kernel
theorem dX10_expression_7 : decode cX10_expression 7 = .ok (.invokevirtual 372, 3) := by decide +kernel
theorem dX10_expression_10 : decode cX10_expression 10 = .ok (.ifCond .eq 26, 3) := by decide +kernel
theorem dX10_expression_13 : decode cX10_expression 13 = .ok (.aload_n 0, 1) := by decide +kernel
theorem dX10_expression_14 : decode cX10_expression 14 = .ok (.invokevirtual 375, 3) := by decide +kernel
theorem dX10_expression_17 : decode cX10_expression 17 = .ok (.aload_n 0, 1) := by decide +kernel
theorem dX10_expression_18 : decode cX10_expression 18 = .ok (.invokevirtual 316, 3) := by decide +kernel
theorem dX10_expression_21 : decode cX10_expression 21 = .ok (.aload_n 0, 1) := by decide +kernel
theorem dX10_expression_22 : decode cX10_expression 22 = .ok (.invokevirtual 369, 3) := by decide +kernel
theorem dX10_expression_25 : decode cX10_expression 25 = .ok (.aload_n 0, 1) := by decide +kernel
theorem dX10_expression_26 : decode cX10_expression 26 = .ok (.iconst 2, 1) := by decide +kernel
theorem dX10_expression_27 : decode cX10_expression 27 = .ok (.sipush 262, 3) := by decide +kernel
theorem dX10_expression_30 : decode cX10_expression 30 = .ok (.invokevirtual 378, 3) := by decide +kernel
theorem dX10_expression_33 : decode cX10_expression 33 = .ok (.goto (-29), 3) := by decide +kernel
theorem dX10_expression_36 : decode cX10_expression 36 = .ok (.return_, 1) := by decide +kernel
theorem dX10_conjunction_0 : decode cX10_conjunction 0 = .ok (.aload_n 0, 1) := by decide +kernel
theorem dX10_conjunction_1 : decode cX10_conjunction 1 = .ok (.invokevirtual 381, 3) := by decide +kernel
theorem dX10_conjunction_4 : decode cX10_conjunction 4 = .ok (.aload_n 0, 1) := by decide +kernel
theorem dX10_conjunction_5 : decode cX10_conjunction 5 = .ok (.bipush 16, 2) := by decide +kernel
theorem dX10_conjunction_7 : decode cX10_conjunction 7 = .ok (.invokevirtual 372, 3) := by decide +kernel
theorem dX10_conjunction_10 : decode cX10_conjunction 10 = .ok (.ifCond .eq 26, 3) := by decide +kernel
theorem dX10_conjunction_13 : decode cX10_conjunction 13 = .ok (.aload_n 0, 1) := by decide +kernel
theorem dX10_conjunction_14 : decode cX10_conjunction 14 = .ok (.invokevirtual 375, 3) := by decide +kernel
theorem dX10_conjunction_17 : decode cX10_conjunction 17 = .ok (.aload_n 0, 1) := by decide +kernel
theorem dX10_conjunction_18 : decode cX10_conjunction 18 = .ok (.invokevirtual 316, 3) := by decide +kernel
theorem dX10_conjunction_21 : decode cX10_conjunction 21 = .ok (.aload_n 0, 1) := by decide +kernel
theorem dX10_conjunction_22 : decode cX10_conjunction 22 = .ok (.invokevirtual 381, 3) := by decide +kernel
theorem dX10_conjunction_25 : decode cX10_conjunction 25 = .ok (.aload_n 0, 1) := by decide +kernel
theorem dX10_conjunction_26 : decode cX10_conjunction 26 = .ok (.iconst 2, 1) := by decide +kernel
theorem dX10_conjunction_27 : decode cX10_conjunction 27 = .ok (.sipush 261, 3) := by decide +kernel
theorem dX10_conjunction_30 : decode cX10_conjunction 30 = .ok (.invokevirtual 378, 3) := by decide +kernel
theorem dX10_conjunction_33 : decode cX10_conjunction 33 = .ok (.goto (-29), 3) := by decide +kernel
theorem dX10_conjunction_36 : decode cX10_conjunction 36 = .ok (.return_, 1) := by decide +kernel
theorem dX10_negation_0 : decode cX10_negation 0 = .ok (.aload_n 0, 1) := by decide +kernel
theorem dX10_negation_1 : decode cX10_negation 1 = .ok (.bipush 17, 2) := by decide +kernel
theorem dX10_negation_3 : decode cX10_negation 3 = .ok (.invokevirtual 372, 3) := by decide +kernel
theorem dX10_negation_6 : decode cX10_negation 6 = .ok (.ifCond .eq 24, 3) := by decide +kernel
theorem dX10_negation_9 : decode cX10_negation 9 = .ok (.aload_n 0, 1) := by decide +kernel
theorem dX10_negation_10 : decode cX10_negation 10 = .ok (.invokevirtual 375, 3) := by decide +kernel
theorem dX10_negation_13 : decode cX10_negation 13 = .ok (.aload_n 0, 1) := by decide +kernel
theorem dX10_negation_14 : decode cX10_negation 14 = .ok (.invokevirtual 316, 3) := by decide +kernel
theorem dX10_negation_17 : decode cX10_negation 17 = .ok (.aload_n 0, 1) := by decide +kernel
theorem dX10_negation_18 : decode cX10_negation 18 = .ok (.invokevirtual 381, 3) := by decide +kernel
theorem dX10_negation_21 : decode cX10_negation 21 = .ok (.aload_n 0, 1) := by decide +kernel
theorem dX10_negation_22 : decode cX10_negation 22 = .ok (.iconst 2, 1) := by decide +kernel
theorem dX10_negation_23 : decode cX10_negation 23 = .ok (.sipush 260, 3) := by decide +kernel
theorem dX10_negation_26 : decode cX10_negation 26 = .ok (.invokevirtual 378, 3) := by decide +kernel
theorem dX10_negation_29 : decode cX10_negation 29 = .ok (.return_, 1) := by decide +kernel
theorem dX10_negation_30 : decode cX10_negation 30 = .ok (.aload_n 0, 1) := by decide +kernel
theorem dX10_negation_31 : decode cX10_negation 31 = .ok (.invokevirtual 384, 3) := by decide +kernel
theorem dX10_negation_34 : decode cX10_negation 34 = .ok (.aload_n 0, 1) := by decide +kernel
theorem dX10_negation_35 : decode cX10_negation 35 = .ok (.getfield 289, 3) := by decide +kernel
theorem dX10_negation_38 : decode cX10_negation 38 = .ok (.ifCond .ne 48, 3) := by decide +kernel
theorem dX10_negation_41 : decode cX10_negation 41 = .ok (.aload_n 0, 1) := by decide +kernel
theorem dX10_negation_42 : decode cX10_negation 42 = .ok (.getfield 254, 3) := by decide +kernel
theorem dX10_negation_45 : decode cX10_negation 45 = .ok (.iconst 3, 1) := by decide +kernel
theorem dX10_negation_46 : decode cX10_negation 46 = .ok (.if_icmp .ne 40, 3) := by decide +kernel
theorem dX10_negation_49 : decode cX10_negation 49 = .ok (.aload_n 0, 1) := by decide +kernel
theorem dX10_negation_50 : decode cX10_negation 50 = .ok (.getfield 264, 3) := by decide +kernel
theorem dX10_negation_53 : decode cX10_negation 53 = .ok (.bipush 60, 2) := by decide +kernel
theorem dX10_negation_55 : decode cX10_negation 55 = .ok (.if_icmp .eq 32, 3) := by decide +kernel
theorem dX10_negation_58 : decode cX10_negation 58 = .ok (.aload_n 0, 1) := by decide +kernel
theorem dX10_negation_59 : decode cX10_negation 59 = .ok (.getfield 264, 3) := by decide +kernel
theorem dX10_negation_62 : decode cX10_negation 62 = .ok (.bipush 62, 2) := by decide +kernel
theorem dX10_negation_64 : decode cX10_negation 64 = .ok (.if_icmp .eq 23, 3) := by decide +kernel
theorem dX10_negation_67 : decode cX10_negation 67 = .ok (.aload_n 0, 1) := by decide +kernel
theorem dX10_negation_68 : decode cX10_negation 68 = .ok (.getfield 264, 3) := by decide +kernel
theorem dX10_negation_71 : decode cX10_negation 71 = .ok (.bipush 61, 2) := by decide +kernel
theorem dX10_negation_73 : decode cX10_negation 73 = .ok (.if_icmp .eq 14, 3) := by decide +kernel
theorem dX10_negation_76 : decode cX10_negation 76 = .ok (.aload_n 0, 1) := by decide +kernel
theorem dX10_negation_77 : decode cX10_negation 77 = .ok (.getfield 264, 3) := by decide +kernel
theorem dX10_negation_80 : decode cX10_negation 80 = .ok (.sipush 256, 3) := by decide +kernel
theorem dX10_negation_83 : decode cX10_negation 83 = .ok (.if_icmp .ge 4, 3) := by decide +kernel
theorem dX10_negation_86 : decode cX10_negation 86 = .ok (.return_, 1) := by decide +kernel
theorem dX10_negation_87 : decode cX10_negation 87 = .ok (.aload_n 0, 1) := by decide +kernel
theorem dX10_negation_88 : decode cX10_negation 88 = .ok (.getfield 264, 3) := by decide +kernel
theorem dX10_negation_91 : decode cX10_negation 91 = .ok (.istore_n 1, 1) := by decide +kernel
theorem dX10_negation_92 : decode cX10_negation 92 = .ok (.aload_n 0, 1) := by decide +kernel
theorem dX10_negation_93 : decode cX10_negation 93 = .ok (.invokevirtual 375, 3) := by decide +kernel
theorem dX10_negation_96 : decode cX10_negation 96 = .ok (.aload_n 0, 1) := by decide +kernel
theorem dX10_negation_97 : decode cX10_negation 97 = .ok (.invokevirtual 316, 3) := by decide +kernel
theorem dX10_negation_100 : decode cX10_negation 100 = .ok (.aload_n 0, 1) := by decide +kernel
theorem dX10_negation_101 : decode cX10_negation 101 = .ok (.invokevirtual 384, 3) := by decide +kernel
theorem dX10_negation_104 : decode cX10_negation 104 = .ok (.aload_n 0, 1) := by decide +kernel
theorem dX10_negation_105 : decode cX10_negation 105 = .ok (.iconst 2, 1) := by decide +kernel
theorem dX10_negation_106 : decode cX10_negation 106 = .ok (.iload_n 1, 1) := by decide +kernel
theorem dX10_negation_107 : decode cX10_negation 107 = .ok (.invokevirtual 378, 3) := by decide +kernel
theorem dX10_negation_110 : decode cX10_negation 110 = .ok (.return_, 1) := by decide +kernel
theorem dX10_sum_0 : decode cX10_sum 0 = .ok (.aload_n 0, 1) := by decide +kernel
theorem dX10_sum_1 : decode cX10_sum 1 = .ok (.invokevirtual 387, 3) := by decide +kernel
theorem dX10_sum_4 : decode cX10_sum 4 = .ok (.aload_n 0, 1) := by decide +kernel
theorem dX10_sum_5 : decode cX10_sum 5 = .ok (.bipush 43, 2) := by decide +kernel
theorem dX10_sum_7 : decode cX10_sum 7 = .ok (.invokevirtual 357, 3) := by decide +kernel
theorem dX10_sum_10 : decode cX10_sum 10 = .ok (.ifCond .ne 12, 3) := by decide +kernel
theorem dX10_sum_13 : decode cX10_sum 13 = .ok (.aload_n 0, 1) := by decide +kernel
theorem dX10_sum_14 : decode cX10_sum 14 = .ok (.bipush 45, 2) := by decide +kernel
theorem dX10_sum_16 : decode cX10_sum 16 = .ok (.invokevirtual 357, 3) := by decide +kernel
theorem dX10_sum_19 : decode cX10_sum 19 = .ok (.ifCond .eq 29, 3) := by decide +kernel
theorem dX10_sum_22 : decode cX10_sum 22 = .ok (.aload_n 0, 1) := by decide +kernel
theorem dX10_sum_23 : decode cX10_sum 23 = .ok (.getfield 264, 3) := by decide +kernel
theorem dX10_sum_26 : decode cX10_sum 26 = .ok (.istore_n 1, 1) := by decide +kernel
theorem dX10_sum_27 : decode cX10_sum 27 = .ok (.aload_n 0, 1) := by decide +kernel
theorem dX10_sum_28 : decode cX10_sum 28 = .ok (.invokevirtual 375, 3) := by decide +kernel
theorem dX10_sum_31 : decode cX10_sum 31 = .ok (.aload_n 0, 1) := by decide +kernel
theorem dX10_sum_32 : decode cX10_sum 32 = .ok (.invokevirtual 316, 3) := by decide +kernel
theorem dX10_sum_35 : decode cX10_sum 35 = .ok (.aload_n 0, 1) := by decide +kernel
theorem dX10_sum_36 : decode cX10_sum 36 = .ok (.invokevirtual 387, 3) := by decide +kernel
theorem dX10_sum_39 : decode cX10_sum 39 = .ok (.aload_n 0, 1) := by decide +kernel
theorem dX10_sum_40 : decode cX10_sum 40 = .ok (.iconst 2, 1) := by decide +kernel
theorem dX10_sum_41 : decode cX10_sum 41 = .ok (.iload_n 1, 1) := by decide +kernel
theorem dX10_sum_42 : decode cX10_sum 42 = .ok (.invokevirtual 378, 3) := by decide +kernel
theorem dX10_sum_45 : decode cX10_sum 45 = .ok (.goto (-41), 3) := by decide +kernel
theorem dX10_sum_48 : decode cX10_sum 48 = .ok (.return_, 1) := by decide +kernel
theorem dX10_product_0 : decode cX10_product 0 = .ok (.aload_n 0, 1) := by decide +kernel
theorem dX10_product_1 : decode cX10_product 1 = .ok (.invokevirtual 390, 3) := by decide +kernel
theorem dX10_product_4 : decode cX10_product 4 = .ok (.aload_n 0, 1) := by decide +kernel
theorem dX10_product_5 : decode cX10_product 5 = .ok (.bipush 42, 2) := by decide +kernel
theorem dX10_product_7 : decode cX10_product 7 = .ok (.invokevirtual 357, 3) := by decide +kernel
theorem dX10_product_10 : decode cX10_product 10 = .ok (.ifCond .ne 12, 3) := by decide +kernel
theorem dX10_product_13 : decode cX10_product 13 = .ok (.aload_n 0, 1) := by decide +kernel
theorem dX10_product_14 : decode cX10_product 14 = .ok (.bipush 47, 2) := by decide +kernel
theorem dX10_product_16 : decode cX10_product 16 = .ok (.invokevirtual 357, 3) := by decide +kernel
theorem dX10_product_19 : decode cX10_product 19 = .ok (.ifCond .eq 29, 3) := by decide +kernel
theorem dX10_product_22 : decode cX10_product 22 = .ok (.aload_n 0, 1) := by decide +kernel
theorem dX10_product_23 : decode cX10_product 23 = .ok (.getfield 264, 3) := by decide +kernel
theorem dX10_product_26 : decode cX10_product 26 = .ok (.istore_n 1, 1) := by decide +kernel
theorem dX10_product_27 : decode cX10_product 27 = .ok (.aload_n 0, 1) := by decide +kernel
theorem dX10_product_28 : decode cX10_product 28 = .ok (.invokevirtual 375, 3) := by decide +kernel
theorem dX10_product_31 : decode cX10_product 31 = .ok (.aload_n 0, 1) := by decide +kernel
theorem dX10_product_32 : decode cX10_product 32 = .ok (.invokevirtual 316, 3) := by decide +kernel
theorem dX10_product_35 : decode cX10_product 35 = .ok (.aload_n 0, 1) := by decide +kernel
theorem dX10_product_36 : decode cX10_product 36 = .ok (.invokevirtual 390, 3) := by decide +kernel
theorem dX10_product_39 : decode cX10_product 39 = .ok (.aload_n 0, 1) := by decide +kernel
theorem dX10_product_40 : decode cX10_product 40 = .ok (.iconst 2, 1) := by decide +kernel
theorem dX10_product_41 : decode cX10_product 41 = .ok (.iload_n 1, 1) := by decide +kernel
theorem dX10_product_42 : decode cX10_product 42 = .ok (.invokevirtual 378, 3) := by decide +kernel
theorem dX10_product_45 : decode cX10_product 45 = .ok (.goto (-41), 3) := by decide +kernel
theorem dX10_product_48 : decode cX10_product 48 = .ok (.return_, 1) := by decide +kernel
theorem dX10_primary_0 : decode cX10_primary 0 = .ok (.aload_n 0, 1) := by decide +kernel
theorem dX10_primary_1 : decode cX10_primary 1 = .ok (.getfield 289, 3) := by decide +kernel
theorem dX10_primary_4 : decode cX10_primary 4 = .ok (.ifCond .eq 4, 3) := by decide +kernel
theorem dX10_primary_7 : decode cX10_primary 7 = .ok (.return_, 1) := by decide +kernel
theorem dX10_primary_8 : decode cX10_primary 8 = .ok (.aload_n 0, 1) := by decide +kernel
theorem dX10_primary_9 : decode cX10_primary 9 = .ok (.bipush 40, 2) := by decide +kernel
theorem dX10_primary_11 : decode cX10_primary 11 = .ok (.invokevirtual 357, 3) := by decide +kernel
theorem dX10_primary_14 : decode cX10_primary 14 = .ok (.ifCond .eq 87, 3) := by decide +kernel
theorem dX10_primary_17 : decode cX10_primary 17 = .ok (.aload_n 0, 1) := by decide +kernel
theorem dX10_primary_18 : decode cX10_primary 18 = .ok (.getfield 393, 3) := by decide +kernel
theorem dX10_primary_21 : decode cX10_primary 21 = .ok (.bipush 8, 2) := by decide +kernel
theorem dX10_primary_23 : decode cX10_primary 23 = .ok (.if_icmp .ne 8, 3) := by decide +kernel
theorem dX10_primary_26 : decode cX10_primary 26 = .ok (.aload_n 0, 1) := by decide +kernel
theorem dX10_primary_27 : decode cX10_primary 27 = .ok (.iconst 2, 1) := by decide +kernel
theorem dX10_primary_28 : decode cX10_primary 28 = .ok (.invokevirtual 298, 3) := by decide +kernel
theorem dX10_primary_31 : decode cX10_primary 31 = .ok (.aload_n 0, 1) := by decide +kernel
theorem dX10_primary_32 : decode cX10_primary 32 = .ok (.getfield 289, 3) := by decide +kernel
theorem dX10_primary_35 : decode cX10_primary 35 = .ok (.ifCond .eq 4, 3) := by decide +kernel
theorem dX10_primary_38 : decode cX10_primary 38 = .ok (.return_, 1) := by decide +kernel
theorem dX10_primary_39 : decode cX10_primary 39 = .ok (.aload_n 0, 1) := by decide +kernel
theorem dX10_primary_40 : decode cX10_primary 40 = .ok (.dup, 1) := by decide +kernel
theorem dX10_primary_41 : decode cX10_primary 41 = .ok (.getfield 393, 3) := by decide +kernel
theorem dX10_primary_44 : decode cX10_primary 44 = .ok (.iconst 1, 1) := by decide +kernel
theorem dX10_primary_45 : decode cX10_primary 45 = .ok (.iadd, 1) := by decide +kernel
theorem dX10_primary_46 : decode cX10_primary 46 = .ok (.putfield 393, 3) := by decide +kernel
theorem dX10_primary_49 : decode cX10_primary 49 = .ok (.aload_n 0, 1) := by decide +kernel
theorem dX10_primary_50 : decode cX10_primary 50 = .ok (.invokevirtual 295, 3) := by decide +kernel
theorem dX10_primary_53 : decode cX10_primary 53 = .ok (.aload_n 0, 1) := by decide +kernel
theorem dX10_primary_54 : decode cX10_primary 54 = .ok (.invokevirtual 363, 3) := by decide +kernel
theorem dX10_primary_57 : decode cX10_primary 57 = .ok (.aload_n 0, 1) := by decide +kernel
theorem dX10_primary_58 : decode cX10_primary 58 = .ok (.getfield 289, 3) := by decide +kernel
theorem dX10_primary_61 : decode cX10_primary 61 = .ok (.ifCond .ne 17, 3) := by decide +kernel
theorem dX10_primary_64 : decode cX10_primary 64 = .ok (.aload_n 0, 1) := by decide +kernel
theorem dX10_primary_65 : decode cX10_primary 65 = .ok (.bipush 41, 2) := by decide +kernel
theorem dX10_primary_67 : decode cX10_primary 67 = .ok (.invokevirtual 357, 3) := by decide +kernel
theorem dX10_primary_70 : decode cX10_primary 70 = .ok (.ifCond .ne 8, 3) := by decide +kernel
theorem dX10_primary_73 : decode cX10_primary 73 = .ok (.aload_n 0, 1) := by decide +kernel
theorem dX10_primary_74 : decode cX10_primary 74 = .ok (.iconst 1, 1) := by decide +kernel
theorem dX10_primary_75 : decode cX10_primary 75 = .ok (.invokevirtual 298, 3) := by decide +kernel
theorem dX10_primary_78 : decode cX10_primary 78 = .ok (.aload_n 0, 1) := by decide +kernel
theorem dX10_primary_79 : decode cX10_primary 79 = .ok (.getfield 289, 3) := by decide +kernel
theorem dX10_primary_82 : decode cX10_primary 82 = .ok (.ifCond .eq 4, 3) := by decide +kernel
theorem dX10_primary_85 : decode cX10_primary 85 = .ok (.return_, 1) := by decide +kernel
theorem dX10_primary_86 : decode cX10_primary 86 = .ok (.aload_n 0, 1) := by decide +kernel
theorem dX10_primary_87 : decode cX10_primary 87 = .ok (.dup, 1) := by decide +kernel
theorem dX10_primary_88 : decode cX10_primary 88 = .ok (.getfield 393, 3) := by decide +kernel
theorem dX10_primary_91 : decode cX10_primary 91 = .ok (.iconst 1, 1) := by decide +kernel
theorem dX10_primary_92 : decode cX10_primary 92 = .ok (.isub, 1) := by decide +kernel
theorem dX10_primary_93 : decode cX10_primary 93 = .ok (.putfield 393, 3) := by decide +kernel
theorem dX10_primary_96 : decode cX10_primary 96 = .ok (.aload_n 0, 1) := by decide +kernel
theorem dX10_primary_97 : decode cX10_primary 97 = .ok (.invokevirtual 295, 3) := by decide +kernel
theorem dX10_primary_100 : decode cX10_primary 100 = .ok (.return_, 1) := by decide +kernel
theorem dX10_primary_101 : decode cX10_primary 101 = .ok (.aload_n 0, 1) := by decide +kernel
theorem dX10_primary_102 : decode cX10_primary 102 = .ok (.getfield 254, 3) := by decide +kernel
theorem dX10_primary_105 : decode cX10_primary 105 = .ok (.iconst 2, 1) := by decide +kernel
theorem dX10_primary_106 : decode cX10_primary 106 = .ok (.if_icmp .ne 7, 3) := by decide +kernel
theorem dX10_primary_109 : decode cX10_primary 109 = .ok (.iconst 1, 1) := by decide +kernel
theorem dX10_primary_110 : decode cX10_primary 110 = .ok (.goto 4, 3) := by decide +kernel
theorem dX10_primary_113 : decode cX10_primary 113 = .ok (.iconst 0, 1) := by decide +kernel
theorem dX10_primary_114 : decode cX10_primary 114 = .ok (.istore_n 1, 1) := by decide +kernel
theorem dX10_primary_115 : decode cX10_primary 115 = .ok (.iload_n 1, 1) := by decide +kernel
theorem dX10_primary_116 : decode cX10_primary 116 = .ok (.ifCond .eq 21, 3) := by decide +kernel
theorem dX10_primary_119 : decode cX10_primary 119 = .ok (.aload_n 0, 1) := by decide +kernel
theorem dX10_primary_120 : decode cX10_primary 120 = .ok (.getfield 264, 3) := by decide +kernel
theorem dX10_primary_123 : decode cX10_primary 123 = .ok (.sipush 9999, 3) := by decide +kernel
theorem dX10_primary_126 : decode cX10_primary 126 = .ok (.if_icmp .le 11, 3) := by decide +kernel
theorem dX10_primary_129 : decode cX10_primary 129 = .ok (.aload_n 0, 1) := by decide +kernel
theorem dX10_primary_130 : decode cX10_primary 130 = .ok (.iconst 2, 1) := by decide +kernel
theorem dX10_primary_131 : decode cX10_primary 131 = .ok (.invokevirtual 298, 3) := by decide +kernel
theorem dX10_primary_134 : decode cX10_primary 134 = .ok (.goto 28, 3) := by decide +kernel
theorem dX10_primary_137 : decode cX10_primary 137 = .ok (.iload_n 1, 1) := by decide +kernel
theorem dX10_primary_138 : decode cX10_primary 138 = .ok (.ifCond .ne 24, 3) := by decide +kernel
theorem dX10_primary_141 : decode cX10_primary 141 = .ok (.aload_n 0, 1) := by decide +kernel
theorem dX10_primary_142 : decode cX10_primary 142 = .ok (.getfield 254, 3) := by decide +kernel
theorem dX10_primary_145 : decode cX10_primary 145 = .ok (.ifCond .ne 12, 3) := by decide +kernel
theorem dX10_primary_148 : decode cX10_primary 148 = .ok (.aload_n 0, 1) := by decide +kernel
theorem dX10_primary_149 : decode cX10_primary 149 = .ok (.getfield 264, 3) := by decide +kernel
theorem dX10_primary_152 : decode cX10_primary 152 = .ok (.bipush 18, 2) := by decide +kernel
theorem dX10_primary_154 : decode cX10_primary 154 = .ok (.if_icmp .ge 8, 3) := by decide +kernel
theorem dX10_primary_157 : decode cX10_primary 157 = .ok (.aload_n 0, 1) := by decide +kernel
theorem dX10_primary_158 : decode cX10_primary 158 = .ok (.iconst 1, 1) := by decide +kernel
theorem dX10_primary_159 : decode cX10_primary 159 = .ok (.invokevirtual 298, 3) := by decide +kernel
theorem dX10_primary_162 : decode cX10_primary 162 = .ok (.aload_n 0, 1) := by decide +kernel
theorem dX10_primary_163 : decode cX10_primary 163 = .ok (.invokevirtual 375, 3) := by decide +kernel
theorem dX10_primary_166 : decode cX10_primary 166 = .ok (.aload_n 0, 1) := by decide +kernel
theorem dX10_primary_167 : decode cX10_primary 167 = .ok (.iload_n 1, 1) := by decide +kernel
theorem dX10_primary_168 : decode cX10_primary 168 = .ok (.ifCond .eq 7, 3) := by decide +kernel
theorem dX10_primary_171 : decode cX10_primary 171 = .ok (.iconst 0, 1) := by decide +kernel
theorem dX10_primary_172 : decode cX10_primary 172 = .ok (.goto 4, 3) := by decide +kernel
theorem dX10_primary_175 : decode cX10_primary 175 = .ok (.iconst 1, 1) := by decide +kernel
theorem dX10_primary_176 : decode cX10_primary 176 = .ok (.iload_n 1, 1) := by decide +kernel
theorem dX10_primary_177 : decode cX10_primary 177 = .ok (.ifCond .eq 10, 3) := by decide +kernel
theorem dX10_primary_180 : decode cX10_primary 180 = .ok (.aload_n 0, 1) := by decide +kernel
theorem dX10_primary_181 : decode cX10_primary 181 = .ok (.getfield 264, 3) := by decide +kernel
theorem dX10_primary_184 : decode cX10_primary 184 = .ok (.goto 10, 3) := by decide +kernel
theorem dX10_primary_187 : decode cX10_primary 187 = .ok (.aload_n 0, 1) := by decide +kernel
theorem dX10_primary_188 : decode cX10_primary 188 = .ok (.getfield 264, 3) := by decide +kernel
theorem dX10_primary_191 : decode cX10_primary 191 = .ok (.bipush 18, 2) := by decide +kernel
theorem dX10_primary_193 : decode cX10_primary 193 = .ok (.isub, 1) := by decide +kernel
theorem dX10_primary_194 : decode cX10_primary 194 = .ok (.invokevirtual 378, 3) := by decide +kernel
theorem dX10_primary_197 : decode cX10_primary 197 = .ok (.aload_n 0, 1) := by decide +kernel
theorem dX10_primary_198 : decode cX10_primary 198 = .ok (.invokevirtual 316, 3) := by decide +kernel
theorem dX10_primary_201 : decode cX10_primary 201 = .ok (.return_, 1) := by decide +kernel
theorem dX10_half_0 : decode cX10_half 0 = .ok (.aload_n 0, 1) := by decide +kernel
theorem dX10_half_1 : decode cX10_half 1 = .ok (.arraylength, 1) := by decide +kernel
theorem dX10_half_2 : decode cX10_half 2 = .ok (.iconst 2, 1) := by decide +kernel
theorem dX10_half_3 : decode cX10_half 3 = .ok (.idiv, 1) := by decide +kernel
theorem dX10_half_4 : decode cX10_half 4 = .ok (.istore_n 1, 1) := by decide +kernel
theorem dX10_half_5 : decode cX10_half 5 = .ok (.iconst 0, 1) := by decide +kernel
theorem dX10_half_6 : decode cX10_half 6 = .ok (.istore_n 2, 1) := by decide +kernel
theorem dX10_half_7 : decode cX10_half 7 = .ok (.iload_n 2, 1) := by decide +kernel
theorem dX10_half_8 : decode cX10_half 8 = .ok (.iload_n 1, 1) := by decide +kernel
theorem dX10_half_9 : decode cX10_half 9 = .ok (.if_icmp .ge 17, 3) := by decide +kernel
theorem dX10_half_12 : decode cX10_half 12 = .ok (.aload_n 0, 1) := by decide +kernel
theorem dX10_half_13 : decode cX10_half 13 = .ok (.iload_n 2, 1) := by decide +kernel
theorem dX10_half_14 : decode cX10_half 14 = .ok (.aload_n 0, 1) := by decide +kernel
theorem dX10_half_15 : decode cX10_half 15 = .ok (.iload_n 1, 1) := by decide +kernel
theorem dX10_half_16 : decode cX10_half 16 = .ok (.iload_n 2, 1) := by decide +kernel
theorem dX10_half_17 : decode cX10_half 17 = .ok (.iadd, 1) := by decide +kernel
theorem dX10_half_18 : decode cX10_half 18 = .ok (.iaload, 1) := by decide +kernel
theorem dX10_half_19 : decode cX10_half 19 = .ok (.iastore, 1) := by decide +kernel
theorem dX10_half_20 : decode cX10_half 20 = .ok (.iinc 2 1, 3) := by decide +kernel
theorem dX10_half_23 : decode cX10_half 23 = .ok (.goto (-16), 3) := by decide +kernel
theorem dX10_half_26 : decode cX10_half 26 = .ok (.return_, 1) := by decide +kernel
theorem dX10_text_0 : decode cX10_text 0 = .ok (.aload_n 0, 1) := by decide +kernel
theorem dX10_text_1 : decode cX10_text 1 = .ok (.iconst 0, 1) := by decide +kernel
theorem dX10_text_2 : decode cX10_text 2 = .ok (.putfield 235, 3) := by decide +kernel
theorem dX10_text_5 : decode cX10_text 5 = .ok (.iload_n 1, 1) := by decide +kernel
theorem dX10_text_6 : decode cX10_text 6 = .ok (.ifCond .lt 11, 3) := by decide +kernel
theorem dX10_text_9 : decode cX10_text 9 = .ok (.iload_n 1, 1) := by decide +kernel
theorem dX10_text_10 : decode cX10_text 10 = .ok (.aload_n 0, 1) := by decide +kernel
theorem dX10_text_11 : decode cX10_text 11 = .ok (.getfield 238, 3) := by decide +kernel
theorem dX10_text_14 : decode cX10_text 14 = .ok (.if_icmp .le 6, 3) := by decide +kernel
theorem dX10_text_17 : decode cX10_text 17 = .ok (.bipush (-2), 2) := by decide +kernel
theorem dX10_text_19 : decode cX10_text 19 = .ok (.ireturn, 1) := by decide +kernel
theorem dX10_text_20 : decode cX10_text 20 = .ok (.aload_n 0, 1) := by decide +kernel
theorem dX10_text_21 : decode cX10_text 21 = .ok (.iload_n 1, 1) := by decide +kernel
theorem dX10_text_22 : decode cX10_text 22 = .ok (.putfield 244, 3) := by decide +kernel
theorem dX10_text_25 : decode cX10_text 25 = .ok (.aload_n 0, 1) := by decide +kernel
theorem dX10_text_26 : decode cX10_text 26 = .ok (.iconst 0, 1) := by decide +kernel
theorem dX10_text_27 : decode cX10_text 27 = .ok (.putfield 238, 3) := by decide +kernel
theorem dX10_text_30 : decode cX10_text 30 = .ok (.aload_n 0, 1) := by decide +kernel
theorem dX10_text_31 : decode cX10_text 31 = .ok (.iconst 0, 1) := by decide +kernel
theorem dX10_text_32 : decode cX10_text 32 = .ok (.putfield 241, 3) := by decide +kernel
theorem dX10_text_35 : decode cX10_text 35 = .ok (.aload_n 0, 1) := by decide +kernel
theorem dX10_text_36 : decode cX10_text 36 = .ok (.iconst 0, 1) := by decide +kernel
theorem dX10_text_37 : decode cX10_text 37 = .ok (.putfield 289, 3) := by decide +kernel
theorem dX10_text_40 : decode cX10_text 40 = .ok (.aload_n 0, 1) := by decide +kernel
theorem dX10_text_41 : decode cX10_text 41 = .ok (.iconst (-1), 1) := by decide +kernel
theorem dX10_text_42 : decode cX10_text 42 = .ok (.putfield 292, 3) := by decide +kernel
theorem dX10_text_45 : decode cX10_text 45 = .ok (.iconst 0, 1) := by decide +kernel
theorem dX10_text_46 : decode cX10_text 46 = .ok (.istore_n 2, 1) := by decide +kernel
theorem dX10_text_47 : decode cX10_text 47 = .ok (.iload_n 2, 1) := by decide +kernel
theorem dX10_text_48 : decode cX10_text 48 = .ok (.bipush 11, 2) := by decide +kernel
theorem dX10_text_50 : decode cX10_text 50 = .ok (.if_icmp .ge 35, 3) := by decide +kernel
theorem dX10_text_53 : decode cX10_text 53 = .ok (.aload_n 0, 1) := by decide +kernel
theorem dX10_text_54 : decode cX10_text 54 = .ok (.iload_n 2, 1) := by decide +kernel
theorem dX10_text_55 : decode cX10_text 55 = .ok (.iload_n 2, 1) := by decide +kernel
theorem dX10_text_56 : decode cX10_text 56 = .ok (.bipush 7, 2) := by decide +kernel
theorem dX10_text_58 : decode cX10_text 58 = .ok (.if_icmp .ne 7, 3) := by decide +kernel
theorem dX10_text_61 : decode cX10_text 61 = .ok (.iconst 5, 1) := by decide +kernel
theorem dX10_text_62 : decode cX10_text 62 = .ok (.goto 14, 3) := by decide +kernel
theorem dX10_text_65 : decode cX10_text 65 = .ok (.iload_n 2, 1) := by decide +kernel
theorem dX10_text_66 : decode cX10_text 66 = .ok (.bipush 8, 2) := by decide +kernel
theorem dX10_text_68 : decode cX10_text 68 = .ok (.if_icmp .ne 7, 3) := by decide +kernel
theorem dX10_text_71 : decode cX10_text 71 = .ok (.iconst 1, 1) := by decide +kernel
theorem dX10_text_72 : decode cX10_text 72 = .ok (.goto 4, 3) := by decide +kernel
theorem dX10_text_75 : decode cX10_text 75 = .ok (.iconst 0, 1) := by decide +kernel
theorem dX10_text_76 : decode cX10_text 76 = .ok (.invokevirtual 331, 3) := by decide +kernel
theorem dX10_text_79 : decode cX10_text 79 = .ok (.iinc 2 1, 3) := by decide +kernel
theorem dX10_text_82 : decode cX10_text 82 = .ok (.goto (-35), 3) := by decide +kernel
theorem dX10_text_85 : decode cX10_text 85 = .ok (.iconst 2, 1) := by decide +kernel
theorem dX10_text_86 : decode cX10_text 86 = .ok (.istore_n 2, 1) := by decide +kernel
theorem dX10_text_87 : decode cX10_text 87 = .ok (.iload_n 2, 1) := by decide +kernel
theorem dX10_text_88 : decode cX10_text 88 = .ok (.iconst 4, 1) := by decide +kernel
theorem dX10_text_89 : decode cX10_text 89 = .ok (.if_icmp .ge 23, 3) := by decide +kernel
theorem dX10_text_92 : decode cX10_text 92 = .ok (.aload_n 0, 1) := by decide +kernel
theorem dX10_text_93 : decode cX10_text 93 = .ok (.getfield 91, 3) := by decide +kernel
theorem dX10_text_96 : decode cX10_text 96 = .ok (.iload_n 2, 1) := by decide +kernel
theorem dX10_text_97 : decode cX10_text 97 = .ok (.iconst 0, 1) := by decide +kernel
theorem dX10_text_98 : decode cX10_text 98 = .ok (.iastore, 1) := by decide +kernel
theorem dX10_text_99 : decode cX10_text 99 = .ok (.aload_n 0, 1) := by decide +kernel
theorem dX10_text_100 : decode cX10_text 100 = .ok (.getfield 94, 3) := by decide +kernel
theorem dX10_text_103 : decode cX10_text 103 = .ok (.iload_n 2, 1) := by decide +kernel
theorem dX10_text_104 : decode cX10_text 104 = .ok (.iconst 0, 1) := by decide +kernel
theorem dX10_text_105 : decode cX10_text 105 = .ok (.iastore, 1) := by decide +kernel
theorem dX10_text_106 : decode cX10_text 106 = .ok (.iinc 2 1, 3) := by decide +kernel
theorem dX10_text_109 : decode cX10_text 109 = .ok (.goto (-22), 3) := by decide +kernel
theorem dX10_text_112 : decode cX10_text 112 = .ok (.aload_n 0, 1) := by decide +kernel
theorem dX10_text_113 : decode cX10_text 113 = .ok (.iconst 0, 1) := by decide +kernel
theorem dX10_text_114 : decode cX10_text 114 = .ok (.putfield 325, 3) := by decide +kernel
theorem dX10_text_117 : decode cX10_text 117 = .ok (.aload_n 0, 1) := by decide +kernel
theorem dX10_text_118 : decode cX10_text 118 = .ok (.iconst 0, 1) := by decide +kernel
theorem dX10_text_119 : decode cX10_text 119 = .ok (.putfield 360, 3) := by decide +kernel
theorem dX10_text_122 : decode cX10_text 122 = .ok (.aload_n 0, 1) := by decide +kernel
theorem dX10_text_123 : decode cX10_text 123 = .ok (.iconst 0, 1) := by decide +kernel
theorem dX10_text_124 : decode cX10_text 124 = .ok (.putfield 393, 3) := by decide +kernel
theorem dX10_text_127 : decode cX10_text 127 = .ok (.aload_n 0, 1) := by decide +kernel
theorem dX10_text_128 : decode cX10_text 128 = .ok (.iconst 0, 1) := by decide +kernel
theorem dX10_text_129 : decode cX10_text 129 = .ok (.putfield 366, 3) := by decide +kernel
theorem dX10_text_132 : decode cX10_text 132 = .ok (.aload_n 0, 1) := by decide +kernel
theorem dX10_text_133 : decode cX10_text 133 = .ok (.invokevirtual 295, 3) := by decide +kernel
theorem dX10_text_136 : decode cX10_text 136 = .ok (.aload_n 0, 1) := by decide +kernel
theorem dX10_text_137 : decode cX10_text 137 = .ok (.getfield 289, 3) := by decide +kernel
theorem dX10_text_140 : decode cX10_text 140 = .ok (.ifCond .ne 18, 3) := by decide +kernel
theorem dX10_text_143 : decode cX10_text 143 = .ok (.aload_n 0, 1) := by decide +kernel
theorem dX10_text_144 : decode cX10_text 144 = .ok (.getfield 254, 3) := by decide +kernel
theorem dX10_text_147 : decode cX10_text 147 = .ok (.iconst 4, 1) := by decide +kernel
theorem dX10_text_148 : decode cX10_text 148 = .ok (.if_icmp .eq 10, 3) := by decide +kernel
theorem dX10_text_151 : decode cX10_text 151 = .ok (.aload_n 0, 1) := by decide +kernel
theorem dX10_text_152 : decode cX10_text 152 = .ok (.invokevirtual 396, 3) := by decide +kernel
theorem dX10_text_155 : decode cX10_text 155 = .ok (.goto (-19), 3) := by decide +kernel
theorem dX10_text_158 : decode cX10_text 158 = .ok (.aload_n 0, 1) := by decide +kernel
theorem dX10_text_159 : decode cX10_text 159 = .ok (.aload_n 0, 1) := by decide +kernel
theorem dX10_text_160 : decode cX10_text 160 = .ok (.getfield 289, 3) := by decide +kernel
theorem dX10_text_163 : decode cX10_text 163 = .ok (.putfield 399, 3) := by decide +kernel
theorem dX10_text_166 : decode cX10_text 166 = .ok (.aload_n 0, 1) := by decide +kernel
theorem dX10_text_167 : decode cX10_text 167 = .ok (.aload_n 0, 1) := by decide +kernel
theorem dX10_text_168 : decode cX10_text 168 = .ok (.getfield 292, 3) := by decide +kernel
theorem dX10_text_171 : decode cX10_text 171 = .ok (.putfield 103, 3) := by decide +kernel
theorem dX10_text_174 : decode cX10_text 174 = .ok (.aload_n 0, 1) := by decide +kernel
theorem dX10_text_175 : decode cX10_text 175 = .ok (.getfield 289, 3) := by decide +kernel
theorem dX10_text_178 : decode cX10_text 178 = .ok (.ifCond .eq 5, 3) := by decide +kernel
theorem dX10_text_181 : decode cX10_text 181 = .ok (.iconst (-1), 1) := by decide +kernel
theorem dX10_text_182 : decode cX10_text 182 = .ok (.ireturn, 1) := by decide +kernel
theorem dX10_text_183 : decode cX10_text 183 = .ok (.aload_n 0, 1) := by decide +kernel
theorem dX10_text_184 : decode cX10_text 184 = .ok (.getfield 13, 3) := by decide +kernel
theorem dX10_text_187 : decode cX10_text 187 = .ok (.invokestatic 402, 3) := by decide +kernel
theorem dX10_text_190 : decode cX10_text 190 = .ok (.aload_n 0, 1) := by decide +kernel
theorem dX10_text_191 : decode cX10_text 191 = .ok (.getfield 16, 3) := by decide +kernel
theorem dX10_text_194 : decode cX10_text 194 = .ok (.invokestatic 402, 3) := by decide +kernel
theorem dX10_text_197 : decode cX10_text 197 = .ok (.aload_n 0, 1) := by decide +kernel
theorem dX10_text_198 : decode cX10_text 198 = .ok (.getfield 19, 3) := by decide +kernel
theorem dX10_text_201 : decode cX10_text 201 = .ok (.invokestatic 402, 3) := by decide +kernel
theorem dX10_text_204 : decode cX10_text 204 = .ok (.aload_n 0, 1) := by decide +kernel
theorem dX10_text_205 : decode cX10_text 205 = .ok (.getfield 22, 3) := by decide +kernel
theorem dX10_text_208 : decode cX10_text 208 = .ok (.invokestatic 402, 3) := by decide +kernel
theorem dX10_text_211 : decode cX10_text 211 = .ok (.aload_n 0, 1) := by decide +kernel
theorem dX10_text_212 : decode cX10_text 212 = .ok (.getfield 25, 3) := by decide +kernel
theorem dX10_text_215 : decode cX10_text 215 = .ok (.invokestatic 402, 3) := by decide +kernel
theorem dX10_text_218 : decode cX10_text 218 = .ok (.aload_n 0, 1) := by decide +kernel
theorem dX10_text_219 : decode cX10_text 219 = .ok (.getfield 28, 3) := by decide +kernel
theorem dX10_text_222 : decode cX10_text 222 = .ok (.invokestatic 402, 3) := by decide +kernel
theorem dX10_text_225 : decode cX10_text 225 = .ok (.aload_n 0, 1) := by decide +kernel
theorem dX10_text_226 : decode cX10_text 226 = .ok (.getfield 31, 3) := by decide +kernel
theorem dX10_text_229 : decode cX10_text 229 = .ok (.invokestatic 402, 3) := by decide +kernel
theorem dX10_text_232 : decode cX10_text 232 = .ok (.aload_n 0, 1) := by decide +kernel
theorem dX10_text_233 : decode cX10_text 233 = .ok (.getfield 34, 3) := by decide +kernel
theorem dX10_text_236 : decode cX10_text 236 = .ok (.invokestatic 402, 3) := by decide +kernel
theorem dX10_text_239 : decode cX10_text 239 = .ok (.aload_n 0, 1) := by decide +kernel
theorem dX10_text_240 : decode cX10_text 240 = .ok (.getfield 37, 3) := by decide +kernel
theorem dX10_text_243 : decode cX10_text 243 = .ok (.invokestatic 402, 3) := by decide +kernel
theorem dX10_text_246 : decode cX10_text 246 = .ok (.aload_n 0, 1) := by decide +kernel
theorem dX10_text_247 : decode cX10_text 247 = .ok (.getfield 40, 3) := by decide +kernel
theorem dX10_text_250 : decode cX10_text 250 = .ok (.invokestatic 402, 3) := by decide +kernel
theorem dX10_text_253 : decode cX10_text 253 = .ok (.aload_n 0, 1) := by decide +kernel
theorem dX10_text_254 : decode cX10_text 254 = .ok (.getfield 43, 3) := by decide +kernel
theorem dX10_text_257 : decode cX10_text 257 = .ok (.invokestatic 402, 3) := by decide +kernel
theorem dX10_text_260 : decode cX10_text 260 = .ok (.aload_n 0, 1) := by decide +kernel
theorem dX10_text_261 : decode cX10_text 261 = .ok (.getfield 46, 3) := by decide +kernel
theorem dX10_text_264 : decode cX10_text 264 = .ok (.invokestatic 402, 3) := by decide +kernel
theorem dX10_text_267 : decode cX10_text 267 = .ok (.aload_n 0, 1) := by decide +kernel
theorem dX10_text_268 : decode cX10_text 268 = .ok (.getfield 49, 3) := by decide +kernel
theorem dX10_text_271 : decode cX10_text 271 = .ok (.invokestatic 402, 3) := by decide +kernel
theorem dX10_text_274 : decode cX10_text 274 = .ok (.aload_n 0, 1) := by decide +kernel
theorem dX10_text_275 : decode cX10_text 275 = .ok (.getfield 52, 3) := by decide +kernel
theorem dX10_text_278 : decode cX10_text 278 = .ok (.invokestatic 402, 3) := by decide +kernel
theorem dX10_text_281 : decode cX10_text 281 = .ok (.aload_n 0, 1) := by decide +kernel
theorem dX10_text_282 : decode cX10_text 282 = .ok (.getfield 55, 3) := by decide +kernel
theorem dX10_text_285 : decode cX10_text 285 = .ok (.invokestatic 402, 3) := by decide +kernel
theorem dX10_text_288 : decode cX10_text 288 = .ok (.aload_n 0, 1) := by decide +kernel
theorem dX10_text_289 : decode cX10_text 289 = .ok (.getfield 58, 3) := by decide +kernel
theorem dX10_text_292 : decode cX10_text 292 = .ok (.invokestatic 402, 3) := by decide +kernel
theorem dX10_text_295 : decode cX10_text 295 = .ok (.aload_n 0, 1) := by decide +kernel
theorem dX10_text_296 : decode cX10_text 296 = .ok (.getfield 61, 3) := by decide +kernel
theorem dX10_text_299 : decode cX10_text 299 = .ok (.invokestatic 402, 3) := by decide +kernel
theorem dX10_text_302 : decode cX10_text 302 = .ok (.aload_n 0, 1) := by decide +kernel
theorem dX10_text_303 : decode cX10_text 303 = .ok (.getfield 64, 3) := by decide +kernel
theorem dX10_text_306 : decode cX10_text 306 = .ok (.invokestatic 402, 3) := by decide +kernel
theorem dX10_text_309 : decode cX10_text 309 = .ok (.aload_n 0, 1) := by decide +kernel
theorem dX10_text_310 : decode cX10_text 310 = .ok (.getfield 67, 3) := by decide +kernel
theorem dX10_text_313 : decode cX10_text 313 = .ok (.invokestatic 402, 3) := by decide +kernel
theorem dX10_text_316 : decode cX10_text 316 = .ok (.aload_n 0, 1) := by decide +kernel
theorem dX10_text_317 : decode cX10_text 317 = .ok (.getfield 70, 3) := by decide +kernel
theorem dX10_text_320 : decode cX10_text 320 = .ok (.invokestatic 402, 3) := by decide +kernel
theorem dX10_text_323 : decode cX10_text 323 = .ok (.aload_n 0, 1) := by decide +kernel
theorem dX10_text_324 : decode cX10_text 324 = .ok (.getfield 73, 3) := by decide +kernel
theorem dX10_text_327 : decode cX10_text 327 = .ok (.invokestatic 402, 3) := by decide +kernel
theorem dX10_text_330 : decode cX10_text 330 = .ok (.aload_n 0, 1) := by decide +kernel
theorem dX10_text_331 : decode cX10_text 331 = .ok (.getfield 76, 3) := by decide +kernel
theorem dX10_text_334 : decode cX10_text 334 = .ok (.invokestatic 402, 3) := by decide +kernel
theorem dX10_text_337 : decode cX10_text 337 = .ok (.aload_n 0, 1) := by decide +kernel
theorem dX10_text_338 : decode cX10_text 338 = .ok (.getfield 79, 3) := by decide +kernel
theorem dX10_text_341 : decode cX10_text 341 = .ok (.invokestatic 402, 3) := by decide +kernel
theorem dX10_text_344 : decode cX10_text 344 = .ok (.aload_n 0, 1) := by decide +kernel
theorem dX10_text_345 : decode cX10_text 345 = .ok (.getfield 82, 3) := by decide +kernel
theorem dX10_text_348 : decode cX10_text 348 = .ok (.invokestatic 402, 3) := by decide +kernel
theorem dX10_text_351 : decode cX10_text 351 = .ok (.aload_n 0, 1) := by decide +kernel
theorem dX10_text_352 : decode cX10_text 352 = .ok (.getfield 85, 3) := by decide +kernel
theorem dX10_text_355 : decode cX10_text 355 = .ok (.invokestatic 402, 3) := by decide +kernel
theorem dX10_text_358 : decode cX10_text 358 = .ok (.aload_n 0, 1) := by decide +kernel
theorem dX10_text_359 : decode cX10_text 359 = .ok (.getfield 88, 3) := by decide +kernel
theorem dX10_text_362 : decode cX10_text 362 = .ok (.invokestatic 402, 3) := by decide +kernel
theorem dX10_text_365 : decode cX10_text 365 = .ok (.aload_n 0, 1) := by decide +kernel
theorem dX10_text_366 : decode cX10_text 366 = .ok (.getfield 91, 3) := by decide +kernel
theorem dX10_text_369 : decode cX10_text 369 = .ok (.invokestatic 402, 3) := by decide +kernel
theorem dX10_text_372 : decode cX10_text 372 = .ok (.aload_n 0, 1) := by decide +kernel
theorem dX10_text_373 : decode cX10_text 373 = .ok (.getfield 94, 3) := by decide +kernel
theorem dX10_text_376 : decode cX10_text 376 = .ok (.invokestatic 402, 3) := by decide +kernel
theorem dX10_text_379 : decode cX10_text 379 = .ok (.aload_n 0, 1) := by decide +kernel
theorem dX10_text_380 : decode cX10_text 380 = .ok (.getfield 97, 3) := by decide +kernel
theorem dX10_text_383 : decode cX10_text 383 = .ok (.invokestatic 402, 3) := by decide +kernel
theorem dX10_text_386 : decode cX10_text 386 = .ok (.aload_n 0, 1) := by decide +kernel
theorem dX10_text_387 : decode cX10_text 387 = .ok (.getfield 100, 3) := by decide +kernel
theorem dX10_text_390 : decode cX10_text 390 = .ok (.invokestatic 402, 3) := by decide +kernel
theorem dX10_text_393 : decode cX10_text 393 = .ok (.aload_n 0, 1) := by decide +kernel
theorem dX10_text_394 : decode cX10_text 394 = .ok (.iconst 0, 1) := by decide +kernel
theorem dX10_text_395 : decode cX10_text 395 = .ok (.putfield 406, 3) := by decide +kernel
theorem dX10_text_398 : decode cX10_text 398 = .ok (.aload_n 0, 1) := by decide +kernel
theorem dX10_text_399 : decode cX10_text 399 = .ok (.iconst (-1), 1) := by decide +kernel
theorem dX10_text_400 : decode cX10_text 400 = .ok (.putfield 214, 3) := by decide +kernel
theorem dX10_text_403 : decode cX10_text 403 = .ok (.aload_n 0, 1) := by decide +kernel
theorem dX10_text_404 : decode cX10_text 404 = .ok (.iconst 0, 1) := by decide +kernel
theorem dX10_text_405 : decode cX10_text 405 = .ok (.putfield 409, 3) := by decide +kernel
theorem dX10_text_408 : decode cX10_text 408 = .ok (.aload_n 0, 1) := by decide +kernel
theorem dX10_text_409 : decode cX10_text 409 = .ok (.iconst 0, 1) := by decide +kernel
theorem dX10_text_410 : decode cX10_text 410 = .ok (.putfield 413, 3) := by decide +kernel
theorem dX10_text_413 : decode cX10_text 413 = .ok (.aload_n 0, 1) := by decide +kernel
theorem dX10_text_414 : decode cX10_text 414 = .ok (.invokevirtual 232, 3) := by decide +kernel
theorem dX10_text_417 : decode cX10_text 417 = .ok (.aload_n 0, 1) := by decide +kernel
theorem dX10_text_418 : decode cX10_text 418 = .ok (.getfield 360, 3) := by decide +kernel
theorem dX10_text_421 : decode cX10_text 421 = .ok (.ireturn, 1) := by decide +kernel
theorem dX10_fault_0 : decode cX10_fault 0 = .ok (.aload_n 0, 1) := by decide +kernel
theorem dX10_fault_1 : decode cX10_fault 1 = .ok (.iconst 0, 1) := by decide +kernel
theorem dX10_fault_2 : decode cX10_fault 2 = .ok (.putfield 235, 3) := by decide +kernel
theorem dX10_fault_5 : decode cX10_fault 5 = .ok (.iload_n 1, 1) := by decide +kernel
theorem dX10_fault_6 : decode cX10_fault 6 = .ok (.ifCond .ne 10, 3) := by decide +kernel
theorem dX10_fault_9 : decode cX10_fault 9 = .ok (.aload_n 0, 1) := by decide +kernel
theorem dX10_fault_10 : decode cX10_fault 10 = .ok (.getfield 399, 3) := by decide +kernel
theorem dX10_fault_13 : decode cX10_fault 13 = .ok (.goto 16, 3) := by decide +kernel
theorem dX10_fault_16 : decode cX10_fault 16 = .ok (.iload_n 1, 1) := by decide +kernel
theorem dX10_fault_17 : decode cX10_fault 17 = .ok (.iconst 1, 1) := by decide +kernel
theorem dX10_fault_18 : decode cX10_fault 18 = .ok (.if_icmp .ne 10, 3) := by decide +kernel
theorem dX10_fault_21 : decode cX10_fault 21 = .ok (.aload_n 0, 1) := by decide +kernel
theorem dX10_fault_22 : decode cX10_fault 22 = .ok (.getfield 103, 3) := by decide +kernel
theorem dX10_fault_25 : decode cX10_fault 25 = .ok (.goto 4, 3) := by decide +kernel
theorem dX10_fault_28 : decode cX10_fault 28 = .ok (.iconst (-1), 1) := by decide +kernel
theorem dX10_fault_29 : decode cX10_fault 29 = .ok (.ireturn, 1) := by decide +kernel
theorem dX10_named_0 : decode cX10_named 0 = .ok (.aload_n 0, 1) := by decide +kernel
theorem dX10_named_1 : decode cX10_named 1 = .ok (.iconst 0, 1) := by decide +kernel
theorem dX10_named_2 : decode cX10_named 2 = .ok (.putfield 235, 3) := by decide +kernel
theorem dX10_named_5 : decode cX10_named 5 = .ok (.iload_n 1, 1) := by decide +kernel
theorem dX10_named_6 : decode cX10_named 6 = .ok (.ifCond .ne 21, 3) := by decide +kernel
theorem dX10_named_9 : decode cX10_named 9 = .ok (.aload_n 0, 1) := by decide +kernel
theorem dX10_named_10 : decode cX10_named 10 = .ok (.getfield 16, 3) := by decide +kernel
theorem dX10_named_13 : decode cX10_named 13 = .ok (.iconst 0, 1) := by decide +kernel
theorem dX10_named_14 : decode cX10_named 14 = .ok (.aload_n 0, 1) := by decide +kernel
theorem dX10_named_15 : decode cX10_named 15 = .ok (.getfield 13, 3) := by decide +kernel
theorem dX10_named_18 : decode cX10_named 18 = .ok (.iconst 0, 1) := by decide +kernel
theorem dX10_named_19 : decode cX10_named 19 = .ok (.iaload, 1) := by decide +kernel
theorem dX10_named_20 : decode cX10_named 20 = .ok (.iload_n 2, 1) := by decide +kernel
theorem dX10_named_21 : decode cX10_named 21 = .ok (.invokestatic 301, 3) := by decide +kernel
theorem dX10_named_24 : decode cX10_named 24 = .ok (.goto 27, 3) := by decide +kernel
theorem dX10_named_27 : decode cX10_named 27 = .ok (.iload_n 1, 1) := by decide +kernel
theorem dX10_named_28 : decode cX10_named 28 = .ok (.iconst 1, 1) := by decide +kernel
theorem dX10_named_29 : decode cX10_named 29 = .ok (.if_icmp .ne 21, 3) := by decide +kernel
theorem dX10_named_32 : decode cX10_named 32 = .ok (.aload_n 0, 1) := by decide +kernel
theorem dX10_named_33 : decode cX10_named 33 = .ok (.getfield 28, 3) := by decide +kernel
theorem dX10_named_36 : decode cX10_named 36 = .ok (.iconst 0, 1) := by decide +kernel
theorem dX10_named_37 : decode cX10_named 37 = .ok (.aload_n 0, 1) := by decide +kernel
theorem dX10_named_38 : decode cX10_named 38 = .ok (.getfield 13, 3) := by decide +kernel
theorem dX10_named_41 : decode cX10_named 41 = .ok (.iconst 2, 1) := by decide +kernel
theorem dX10_named_42 : decode cX10_named 42 = .ok (.iaload, 1) := by decide +kernel
theorem dX10_named_43 : decode cX10_named 43 = .ok (.iload_n 2, 1) := by decide +kernel
theorem dX10_named_44 : decode cX10_named 44 = .ok (.invokestatic 301, 3) := by decide +kernel
theorem dX10_named_47 : decode cX10_named 47 = .ok (.goto 4, 3) := by decide +kernel
theorem dX10_named_50 : decode cX10_named 50 = .ok (.iconst (-1), 1) := by decide +kernel
theorem dX10_named_51 : decode cX10_named 51 = .ok (.ireturn, 1) := by decide +kernel
theorem dX10_is_0 : decode cX10_is 0 = .ok (.iload_n 0, 1) := by decide +kernel
theorem dX10_is_1 : decode cX10_is 1 = .ok (.ifCond .eq 7, 3) := by decide +kernel
theorem dX10_is_4 : decode cX10_is 4 = .ok (.lconst 1, 1) := by decide +kernel
theorem dX10_is_5 : decode cX10_is 5 = .ok (.goto 4, 3) := by decide +kernel
theorem dX10_is_8 : decode cX10_is 8 = .ok (.lconst 0, 1) := by decide +kernel
theorem dX10_is_9 : decode cX10_is 9 = .ok (.lreturn, 1) := by decide +kernel
theorem dX10_works_0 : decode cX10_works 0 = .ok (.aload_n 0, 1) := by decide +kernel
theorem dX10_works_1 : decode cX10_works 1 = .ok (.getfield 111, 3) := by decide +kernel
theorem dX10_works_4 : decode cX10_works 4 = .ok (.aload_n 0, 1) := by decide +kernel
theorem dX10_works_5 : decode cX10_works 5 = .ok (.getfield 416, 3) := by decide +kernel
theorem dX10_works_8 : decode cX10_works 8 = .ok (.iconst 1, 1) := by decide +kernel
theorem dX10_works_9 : decode cX10_works 9 = .ok (.isub, 1) := by decide +kernel
theorem dX10_works_10 : decode cX10_works 10 = .ok (.laload, 1) := by decide +kernel
theorem dX10_works_11 : decode cX10_works 11 = .ok (.lstore_n 2, 1) := by decide +kernel
theorem dX10_works_12 : decode cX10_works 12 = .ok (.iload_n 1, 1) := by decide +kernel
theorem dX10_works_13 : decode cX10_works 13 = .ok (.sipush 260, 3) := by decide +kernel
theorem dX10_works_16 : decode cX10_works 16 = .ok (.if_icmp .ne 30, 3) := by decide +kernel
theorem dX10_works_19 : decode cX10_works 19 = .ok (.aload_n 0, 1) := by decide +kernel
theorem dX10_works_20 : decode cX10_works 20 = .ok (.getfield 111, 3) := by decide +kernel
theorem dX10_works_23 : decode cX10_works 23 = .ok (.aload_n 0, 1) := by decide +kernel
theorem dX10_works_24 : decode cX10_works 24 = .ok (.getfield 416, 3) := by decide +kernel
theorem dX10_works_27 : decode cX10_works 27 = .ok (.iconst 1, 1) := by decide +kernel
theorem dX10_works_28 : decode cX10_works 28 = .ok (.isub, 1) := by decide +kernel
theorem dX10_works_29 : decode cX10_works 29 = .ok (.lload_n 2, 1) := by decide +kernel
theorem dX10_works_30 : decode cX10_works 30 = .ok (.lconst 0, 1) := by decide +kernel
theorem dX10_works_31 : decode cX10_works 31 = .ok (.lcmp, 1) := by decide +kernel
theorem dX10_works_32 : decode cX10_works 32 = .ok (.ifCond .ne 7, 3) := by decide +kernel
theorem dX10_works_35 : decode cX10_works 35 = .ok (.iconst 1, 1) := by decide +kernel
theorem dX10_works_36 : decode cX10_works 36 = .ok (.goto 4, 3) := by decide +kernel
theorem dX10_works_39 : decode cX10_works 39 = .ok (.iconst 0, 1) := by decide +kernel
theorem dX10_works_40 : decode cX10_works 40 = .ok (.invokestatic 419, 3) := by decide +kernel
theorem dX10_works_43 : decode cX10_works 43 = .ok (.lastore, 1) := by decide +kernel
theorem dX10_works_44 : decode cX10_works 44 = .ok (.iconst 1, 1) := by decide +kernel
theorem dX10_works_45 : decode cX10_works 45 = .ok (.ireturn, 1) := by decide +kernel
theorem dX10_works_46 : decode cX10_works 46 = .ok (.aload_n 0, 1) := by decide +kernel
theorem dX10_works_47 : decode cX10_works 47 = .ok (.getfield 111, 3) := by decide +kernel
theorem dX10_works_50 : decode cX10_works 50 = .ok (.aload_n 0, 1) := by decide +kernel
theorem dX10_works_51 : decode cX10_works 51 = .ok (.getfield 416, 3) := by decide +kernel
theorem dX10_works_54 : decode cX10_works 54 = .ok (.iconst 2, 1) := by decide +kernel
theorem dX10_works_55 : decode cX10_works 55 = .ok (.isub, 1) := by decide +kernel
theorem dX10_works_56 : decode cX10_works 56 = .ok (.laload, 1) := by decide +kernel
theorem dX10_works_57 : decode cX10_works 57 = .ok (.lstore 4, 2) := by decide +kernel
theorem dX10_works_59 : decode cX10_works 59 = .ok (.aload_n 0, 1) := by decide +kernel
theorem dX10_works_60 : decode cX10_works 60 = .ok (.dup, 1) := by decide +kernel
theorem dX10_works_61 : decode cX10_works 61 = .ok (.getfield 416, 3) := by decide +kernel
theorem dX10_works_64 : decode cX10_works 64 = .ok (.iconst 1, 1) := by decide +kernel
theorem dX10_works_65 : decode cX10_works 65 = .ok (.isub, 1) := by decide +kernel
theorem dX10_works_66 : decode cX10_works 66 = .ok (.putfield 416, 3) := by decide +kernel
theorem dX10_works_69 : decode cX10_works 69 = .ok (.iload_n 1, 1) := by decide +kernel
theorem dX10_works_70 : decode cX10_works 70 = .ok (.lookupswitch 314 #[(42, 116), (43, 98), (45, 107), (47, 151), (60, 168), (61, 208), (62, 188), (256, 228), (257, 268), (258, 248), (261, 288)], 98) := by decide +kernel
theorem dX10_works_168 : decode cX10_works 168 = .ok (.lload 4, 2) := by decide +kernel
theorem dX10_works_170 : decode cX10_works 170 = .ok (.lload_n 2, 1) := by decide +kernel
theorem dX10_works_171 : decode cX10_works 171 = .ok (.ladd, 1) := by decide +kernel
theorem dX10_works_172 : decode cX10_works 172 = .ok (.lstore 6, 2) := by decide +kernel
theorem dX10_works_174 : decode cX10_works 174 = .ok (.goto 233, 3) := by decide +kernel
theorem dX10_works_177 : decode cX10_works 177 = .ok (.lload 4, 2) := by decide +kernel
theorem dX10_works_179 : decode cX10_works 179 = .ok (.lload_n 2, 1) := by decide +kernel
theorem dX10_works_180 : decode cX10_works 180 = .ok (.lsub, 1) := by decide +kernel
theorem dX10_works_181 : decode cX10_works 181 = .ok (.lstore 6, 2) := by decide +kernel
theorem dX10_works_183 : decode cX10_works 183 = .ok (.goto 224, 3) := by decide +kernel
theorem dX10_works_186 : decode cX10_works 186 = .ok (.lload 4, 2) := by decide +kernel
theorem dX10_works_188 : decode cX10_works 188 = .ok (.lconst 0, 1) := by decide +kernel
theorem dX10_works_189 : decode cX10_works 189 = .ok (.lcmp, 1) := by decide +kernel
theorem dX10_works_190 : decode cX10_works 190 = .ok (.ifCond .eq 22, 3) := by decide +kernel
theorem dX10_works_193 : decode cX10_works 193 = .ok (.lload_n 2, 1) := by decide +kernel
theorem dX10_works_194 : decode cX10_works 194 = .ok (.invokestatic 423, 3) := by decide +kernel
theorem dX10_works_197 : decode cX10_works 197 = .ok (.ldc2_w 429, 3) := by decide +kernel
theorem dX10_works_200 : decode cX10_works 200 = .ok (.lload 4, 2) := by decide +kernel
theorem dX10_works_202 : decode cX10_works 202 = .ok (.invokestatic 423, 3) := by decide +kernel
theorem dX10_works_205 : decode cX10_works 205 = .ok (.ldiv, 1) := by decide +kernel
theorem dX10_works_206 : decode cX10_works 206 = .ok (.lcmp, 1) := by decide +kernel
theorem dX10_works_207 : decode cX10_works 207 = .ok (.ifCond .le 5, 3) := by decide +kernel
theorem dX10_works_210 : decode cX10_works 210 = .ok (.iconst 0, 1) := by decide +kernel
theorem dX10_works_211 : decode cX10_works 211 = .ok (.ireturn, 1) := by decide +kernel
theorem dX10_works_212 : decode cX10_works 212 = .ok (.lload 4, 2) := by decide +kernel
theorem dX10_works_214 : decode cX10_works 214 = .ok (.lload_n 2, 1) := by decide +kernel
theorem dX10_works_215 : decode cX10_works 215 = .ok (.lmul, 1) := by decide +kernel
theorem dX10_works_216 : decode cX10_works 216 = .ok (.lstore 6, 2) := by decide +kernel
theorem dX10_works_218 : decode cX10_works 218 = .ok (.goto 189, 3) := by decide +kernel
theorem dX10_works_221 : decode cX10_works 221 = .ok (.lload_n 2, 1) := by decide +kernel
theorem dX10_works_222 : decode cX10_works 222 = .ok (.lconst 0, 1) := by decide +kernel
theorem dX10_works_223 : decode cX10_works 223 = .ok (.lcmp, 1) := by decide +kernel
theorem dX10_works_224 : decode cX10_works 224 = .ok (.ifCond .ne 5, 3) := by decide +kernel
theorem dX10_works_227 : decode cX10_works 227 = .ok (.iconst 0, 1) := by decide +kernel
theorem dX10_works_228 : decode cX10_works 228 = .ok (.ireturn, 1) := by decide +kernel
theorem dX10_works_229 : decode cX10_works 229 = .ok (.lload 4, 2) := by decide +kernel
theorem dX10_works_231 : decode cX10_works 231 = .ok (.lload_n 2, 1) := by decide +kernel
theorem dX10_works_232 : decode cX10_works 232 = .ok (.ldiv, 1) := by decide +kernel
theorem dX10_works_233 : decode cX10_works 233 = .ok (.lstore 6, 2) := by decide +kernel
theorem dX10_works_235 : decode cX10_works 235 = .ok (.goto 172, 3) := by decide +kernel
theorem dX10_works_238 : decode cX10_works 238 = .ok (.lload 4, 2) := by decide +kernel
theorem dX10_works_240 : decode cX10_works 240 = .ok (.lload_n 2, 1) := by decide +kernel
theorem dX10_works_241 : decode cX10_works 241 = .ok (.lcmp, 1) := by decide +kernel
theorem dX10_works_242 : decode cX10_works 242 = .ok (.ifCond .ge 7, 3) := by decide +kernel
theorem dX10_works_245 : decode cX10_works 245 = .ok (.iconst 1, 1) := by decide +kernel
theorem dX10_works_246 : decode cX10_works 246 = .ok (.goto 4, 3) := by decide +kernel
theorem dX10_works_249 : decode cX10_works 249 = .ok (.iconst 0, 1) := by decide +kernel
theorem dX10_works_250 : decode cX10_works 250 = .ok (.invokestatic 419, 3) := by decide +kernel
theorem dX10_works_253 : decode cX10_works 253 = .ok (.lstore 6, 2) := by decide +kernel
theorem dX10_works_255 : decode cX10_works 255 = .ok (.goto 152, 3) := by decide +kernel
theorem dX10_works_258 : decode cX10_works 258 = .ok (.lload 4, 2) := by decide +kernel
theorem dX10_works_260 : decode cX10_works 260 = .ok (.lload_n 2, 1) := by decide +kernel
theorem dX10_works_261 : decode cX10_works 261 = .ok (.lcmp, 1) := by decide +kernel
theorem dX10_works_262 : decode cX10_works 262 = .ok (.ifCond .le 7, 3) := by decide +kernel
theorem dX10_works_265 : decode cX10_works 265 = .ok (.iconst 1, 1) := by decide +kernel
theorem dX10_works_266 : decode cX10_works 266 = .ok (.goto 4, 3) := by decide +kernel
theorem dX10_works_269 : decode cX10_works 269 = .ok (.iconst 0, 1) := by decide +kernel
theorem dX10_works_270 : decode cX10_works 270 = .ok (.invokestatic 419, 3) := by decide +kernel
theorem dX10_works_273 : decode cX10_works 273 = .ok (.lstore 6, 2) := by decide +kernel
theorem dX10_works_275 : decode cX10_works 275 = .ok (.goto 132, 3) := by decide +kernel
theorem dX10_works_278 : decode cX10_works 278 = .ok (.lload 4, 2) := by decide +kernel
theorem dX10_works_280 : decode cX10_works 280 = .ok (.lload_n 2, 1) := by decide +kernel
theorem dX10_works_281 : decode cX10_works 281 = .ok (.lcmp, 1) := by decide +kernel
theorem dX10_works_282 : decode cX10_works 282 = .ok (.ifCond .ne 7, 3) := by decide +kernel
theorem dX10_works_285 : decode cX10_works 285 = .ok (.iconst 1, 1) := by decide +kernel
theorem dX10_works_286 : decode cX10_works 286 = .ok (.goto 4, 3) := by decide +kernel
theorem dX10_works_289 : decode cX10_works 289 = .ok (.iconst 0, 1) := by decide +kernel
theorem dX10_works_290 : decode cX10_works 290 = .ok (.invokestatic 419, 3) := by decide +kernel
theorem dX10_works_293 : decode cX10_works 293 = .ok (.lstore 6, 2) := by decide +kernel
theorem dX10_works_295 : decode cX10_works 295 = .ok (.goto 112, 3) := by decide +kernel
theorem dX10_works_298 : decode cX10_works 298 = .ok (.lload 4, 2) := by decide +kernel
theorem dX10_works_300 : decode cX10_works 300 = .ok (.lload_n 2, 1) := by decide +kernel
theorem dX10_works_301 : decode cX10_works 301 = .ok (.lcmp, 1) := by decide +kernel
theorem dX10_works_302 : decode cX10_works 302 = .ok (.ifCond .gt 7, 3) := by decide +kernel
theorem dX10_works_305 : decode cX10_works 305 = .ok (.iconst 1, 1) := by decide +kernel
theorem dX10_works_306 : decode cX10_works 306 = .ok (.goto 4, 3) := by decide +kernel
theorem dX10_works_309 : decode cX10_works 309 = .ok (.iconst 0, 1) := by decide +kernel
theorem dX10_works_310 : decode cX10_works 310 = .ok (.invokestatic 419, 3) := by decide +kernel
theorem dX10_works_313 : decode cX10_works 313 = .ok (.lstore 6, 2) := by decide +kernel
theorem dX10_works_315 : decode cX10_works 315 = .ok (.goto 92, 3) := by decide +kernel
theorem dX10_works_318 : decode cX10_works 318 = .ok (.lload 4, 2) := by decide +kernel
theorem dX10_works_320 : decode cX10_works 320 = .ok (.lload_n 2, 1) := by decide +kernel
theorem dX10_works_321 : decode cX10_works 321 = .ok (.lcmp, 1) := by decide +kernel
theorem dX10_works_322 : decode cX10_works 322 = .ok (.ifCond .lt 7, 3) := by decide +kernel
theorem dX10_works_325 : decode cX10_works 325 = .ok (.iconst 1, 1) := by decide +kernel
theorem dX10_works_326 : decode cX10_works 326 = .ok (.goto 4, 3) := by decide +kernel
theorem dX10_works_329 : decode cX10_works 329 = .ok (.iconst 0, 1) := by decide +kernel
theorem dX10_works_330 : decode cX10_works 330 = .ok (.invokestatic 419, 3) := by decide +kernel
theorem dX10_works_333 : decode cX10_works 333 = .ok (.lstore 6, 2) := by decide +kernel
theorem dX10_works_335 : decode cX10_works 335 = .ok (.goto 72, 3) := by decide +kernel
theorem dX10_works_338 : decode cX10_works 338 = .ok (.lload 4, 2) := by decide +kernel
theorem dX10_works_340 : decode cX10_works 340 = .ok (.lload_n 2, 1) := by decide +kernel
theorem dX10_works_341 : decode cX10_works 341 = .ok (.lcmp, 1) := by decide +kernel
theorem dX10_works_342 : decode cX10_works 342 = .ok (.ifCond .eq 7, 3) := by decide +kernel
theorem dX10_works_345 : decode cX10_works 345 = .ok (.iconst 1, 1) := by decide +kernel
theorem dX10_works_346 : decode cX10_works 346 = .ok (.goto 4, 3) := by decide +kernel
theorem dX10_works_349 : decode cX10_works 349 = .ok (.iconst 0, 1) := by decide +kernel
theorem dX10_works_350 : decode cX10_works 350 = .ok (.invokestatic 419, 3) := by decide +kernel
theorem dX10_works_353 : decode cX10_works 353 = .ok (.lstore 6, 2) := by decide +kernel
theorem dX10_works_355 : decode cX10_works 355 = .ok (.goto 52, 3) := by decide +kernel
theorem dX10_works_358 : decode cX10_works 358 = .ok (.lload 4, 2) := by decide +kernel
theorem dX10_works_360 : decode cX10_works 360 = .ok (.lconst 0, 1) := by decide +kernel
theorem dX10_works_361 : decode cX10_works 361 = .ok (.lcmp, 1) := by decide +kernel
theorem dX10_works_362 : decode cX10_works 362 = .ok (.ifCond .eq 13, 3) := by decide +kernel
theorem dX10_works_365 : decode cX10_works 365 = .ok (.lload_n 2, 1) := by decide +kernel
theorem dX10_works_366 : decode cX10_works 366 = .ok (.lconst 0, 1) := by decide +kernel
theorem dX10_works_367 : decode cX10_works 367 = .ok (.lcmp, 1) := by decide +kernel
theorem dX10_works_368 : decode cX10_works 368 = .ok (.ifCond .eq 7, 3) := by decide +kernel
theorem dX10_works_371 : decode cX10_works 371 = .ok (.iconst 1, 1) := by decide +kernel
theorem dX10_works_372 : decode cX10_works 372 = .ok (.goto 4, 3) := by decide +kernel
theorem dX10_works_375 : decode cX10_works 375 = .ok (.iconst 0, 1) := by decide +kernel
theorem dX10_works_376 : decode cX10_works 376 = .ok (.invokestatic 419, 3) := by decide +kernel
theorem dX10_works_379 : decode cX10_works 379 = .ok (.lstore 6, 2) := by decide +kernel
theorem dX10_works_381 : decode cX10_works 381 = .ok (.goto 26, 3) := by decide +kernel
theorem dX10_works_384 : decode cX10_works 384 = .ok (.lload 4, 2) := by decide +kernel
theorem dX10_works_386 : decode cX10_works 386 = .ok (.lconst 0, 1) := by decide +kernel
theorem dX10_works_387 : decode cX10_works 387 = .ok (.lcmp, 1) := by decide +kernel
theorem dX10_works_388 : decode cX10_works 388 = .ok (.ifCond .ne 9, 3) := by decide +kernel
theorem dX10_works_391 : decode cX10_works 391 = .ok (.lload_n 2, 1) := by decide +kernel
theorem dX10_works_392 : decode cX10_works 392 = .ok (.lconst 0, 1) := by decide +kernel
theorem dX10_works_393 : decode cX10_works 393 = .ok (.lcmp, 1) := by decide +kernel
theorem dX10_works_394 : decode cX10_works 394 = .ok (.ifCond .eq 7, 3) := by decide +kernel
theorem dX10_works_397 : decode cX10_works 397 = .ok (.iconst 1, 1) := by decide +kernel
theorem dX10_works_398 : decode cX10_works 398 = .ok (.goto 4, 3) := by decide +kernel
theorem dX10_works_401 : decode cX10_works 401 = .ok (.iconst 0, 1) := by decide +kernel
theorem dX10_works_402 : decode cX10_works 402 = .ok (.invokestatic 419, 3) := by decide +kernel
theorem dX10_works_405 : decode cX10_works 405 = .ok (.lstore 6, 2) := by decide +kernel
theorem dX10_works_407 : decode cX10_works 407 = .ok (.aload_n 0, 1) := by decide +kernel
theorem dX10_works_408 : decode cX10_works 408 = .ok (.getfield 111, 3) := by decide +kernel
theorem dX10_works_411 : decode cX10_works 411 = .ok (.aload_n 0, 1) := by decide +kernel
theorem dX10_works_412 : decode cX10_works 412 = .ok (.getfield 416, 3) := by decide +kernel
theorem dX10_works_415 : decode cX10_works 415 = .ok (.iconst 1, 1) := by decide +kernel
theorem dX10_works_416 : decode cX10_works 416 = .ok (.isub, 1) := by decide +kernel
theorem dX10_works_417 : decode cX10_works 417 = .ok (.lload 6, 2) := by decide +kernel
theorem dX10_works_419 : decode cX10_works 419 = .ok (.lastore, 1) := by decide +kernel
theorem dX10_works_420 : decode cX10_works 420 = .ok (.lload 6, 2) := by decide +kernel
theorem dX10_works_422 : decode cX10_works 422 = .ok (.ldc2_w 429, 3) := by decide +kernel
theorem dX10_works_425 : decode cX10_works 425 = .ok (.lcmp, 1) := by decide +kernel
theorem dX10_works_426 : decode cX10_works 426 = .ok (.ifCond .gt 16, 3) := by decide +kernel
theorem dX10_works_429 : decode cX10_works 429 = .ok (.lload 6, 2) := by decide +kernel
theorem dX10_works_431 : decode cX10_works 431 = .ok (.ldc2_w 431, 3) := by decide +kernel
theorem dX10_works_434 : decode cX10_works 434 = .ok (.lcmp, 1) := by decide +kernel
theorem dX10_works_435 : decode cX10_works 435 = .ok (.ifCond .lt 7, 3) := by decide +kernel
theorem dX10_works_438 : decode cX10_works 438 = .ok (.iconst 1, 1) := by decide +kernel
theorem dX10_works_439 : decode cX10_works 439 = .ok (.goto 4, 3) := by decide +kernel
theorem dX10_works_442 : decode cX10_works 442 = .ok (.iconst 0, 1) := by decide +kernel
theorem dX10_works_443 : decode cX10_works 443 = .ok (.ireturn, 1) := by decide +kernel
theorem dX10_goes_0 : decode cX10_goes 0 = .ok (.aload_n 0, 1) := by decide +kernel
theorem dX10_goes_1 : decode cX10_goes 1 = .ok (.iconst 0, 1) := by decide +kernel
theorem dX10_goes_2 : decode cX10_goes 2 = .ok (.putfield 416, 3) := by decide +kernel
theorem dX10_goes_5 : decode cX10_goes 5 = .ok (.aload_n 0, 1) := by decide +kernel
theorem dX10_goes_6 : decode cX10_goes 6 = .ok (.getfield 91, 3) := by decide +kernel
theorem dX10_goes_9 : decode cX10_goes 9 = .ok (.iload_n 1, 1) := by decide +kernel
theorem dX10_goes_10 : decode cX10_goes 10 = .ok (.iaload, 1) := by decide +kernel
theorem dX10_goes_11 : decode cX10_goes 11 = .ok (.istore_n 2, 1) := by decide +kernel
theorem dX10_goes_12 : decode cX10_goes 12 = .ok (.iload_n 2, 1) := by decide +kernel
theorem dX10_goes_13 : decode cX10_goes 13 = .ok (.aload_n 0, 1) := by decide +kernel
theorem dX10_goes_14 : decode cX10_goes 14 = .ok (.getfield 94, 3) := by decide +kernel
theorem dX10_goes_17 : decode cX10_goes 17 = .ok (.iload_n 1, 1) := by decide +kernel
theorem dX10_goes_18 : decode cX10_goes 18 = .ok (.iaload, 1) := by decide +kernel
theorem dX10_goes_19 : decode cX10_goes 19 = .ok (.if_icmp .ge 83, 3) := by decide +kernel
theorem dX10_goes_22 : decode cX10_goes 22 = .ok (.aload_n 0, 1) := by decide +kernel
theorem dX10_goes_23 : decode cX10_goes 23 = .ok (.getfield 97, 3) := by decide +kernel
theorem dX10_goes_26 : decode cX10_goes 26 = .ok (.iload_n 2, 1) := by decide +kernel
theorem dX10_goes_27 : decode cX10_goes 27 = .ok (.iaload, 1) := by decide +kernel
theorem dX10_goes_28 : decode cX10_goes 28 = .ok (.iconst 2, 1) := by decide +kernel
theorem dX10_goes_29 : decode cX10_goes 29 = .ok (.if_icmp .ne 18, 3) := by decide +kernel
theorem dX10_goes_32 : decode cX10_goes 32 = .ok (.aload_n 0, 1) := by decide +kernel
theorem dX10_goes_33 : decode cX10_goes 33 = .ok (.aload_n 0, 1) := by decide +kernel
theorem dX10_goes_34 : decode cX10_goes 34 = .ok (.getfield 100, 3) := by decide +kernel
theorem dX10_goes_37 : decode cX10_goes 37 = .ok (.iload_n 2, 1) := by decide +kernel
theorem dX10_goes_38 : decode cX10_goes 38 = .ok (.iaload, 1) := by decide +kernel
theorem dX10_goes_39 : decode cX10_goes 39 = .ok (.invokevirtual 433, 3) := by decide +kernel
theorem dX10_goes_42 : decode cX10_goes 42 = .ok (.ifCond .ne 54, 3) := by decide +kernel
theorem dX10_goes_45 : decode cX10_goes 45 = .ok (.iconst 0, 1) := by decide +kernel
theorem dX10_goes_46 : decode cX10_goes 46 = .ok (.ireturn, 1) := by decide +kernel
theorem dX10_goes_47 : decode cX10_goes 47 = .ok (.aload_n 0, 1) := by decide +kernel
theorem dX10_goes_48 : decode cX10_goes 48 = .ok (.getfield 111, 3) := by decide +kernel
theorem dX10_goes_51 : decode cX10_goes 51 = .ok (.aload_n 0, 1) := by decide +kernel
theorem dX10_goes_52 : decode cX10_goes 52 = .ok (.getfield 416, 3) := by decide +kernel
theorem dX10_goes_55 : decode cX10_goes 55 = .ok (.aload_n 0, 1) := by decide +kernel
theorem dX10_goes_56 : decode cX10_goes 56 = .ok (.getfield 97, 3) := by decide +kernel
theorem dX10_goes_59 : decode cX10_goes 59 = .ok (.iload_n 2, 1) := by decide +kernel
theorem dX10_goes_60 : decode cX10_goes 60 = .ok (.iaload, 1) := by decide +kernel
theorem dX10_goes_61 : decode cX10_goes 61 = .ok (.ifCond .ne 13, 3) := by decide +kernel
theorem dX10_goes_64 : decode cX10_goes 64 = .ok (.aload_n 0, 1) := by decide +kernel
theorem dX10_goes_65 : decode cX10_goes 65 = .ok (.getfield 100, 3) := by decide +kernel
theorem dX10_goes_68 : decode cX10_goes 68 = .ok (.iload_n 2, 1) := by decide +kernel
theorem dX10_goes_69 : decode cX10_goes 69 = .ok (.iaload, 1) := by decide +kernel
theorem dX10_goes_70 : decode cX10_goes 70 = .ok (.i2l, 1) := by decide +kernel
theorem dX10_goes_71 : decode cX10_goes 71 = .ok (.goto 14, 3) := by decide +kernel
theorem dX10_goes_74 : decode cX10_goes 74 = .ok (.aload_n 0, 1) := by decide +kernel
theorem dX10_goes_75 : decode cX10_goes 75 = .ok (.getfield 107, 3) := by decide +kernel
theorem dX10_goes_78 : decode cX10_goes 78 = .ok (.aload_n 0, 1) := by decide +kernel
theorem dX10_goes_79 : decode cX10_goes 79 = .ok (.getfield 100, 3) := by decide +kernel
theorem dX10_goes_82 : decode cX10_goes 82 = .ok (.iload_n 2, 1) := by decide +kernel
theorem dX10_goes_83 : decode cX10_goes 83 = .ok (.iaload, 1) := by decide +kernel
theorem dX10_goes_84 : decode cX10_goes 84 = .ok (.laload, 1) := by decide +kernel
theorem dX10_goes_85 : decode cX10_goes 85 = .ok (.lastore, 1) := by decide +kernel
theorem dX10_goes_86 : decode cX10_goes 86 = .ok (.aload_n 0, 1) := by decide +kernel
theorem dX10_goes_87 : decode cX10_goes 87 = .ok (.dup, 1) := by decide +kernel
theorem dX10_goes_88 : decode cX10_goes 88 = .ok (.getfield 416, 3) := by decide +kernel
theorem dX10_goes_91 : decode cX10_goes 91 = .ok (.iconst 1, 1) := by decide +kernel
theorem dX10_goes_92 : decode cX10_goes 92 = .ok (.iadd, 1) := by decide +kernel
theorem dX10_goes_93 : decode cX10_goes 93 = .ok (.putfield 416, 3) := by decide +kernel
theorem dX10_goes_96 : decode cX10_goes 96 = .ok (.iinc 2 1, 3) := by decide +kernel
theorem dX10_goes_99 : decode cX10_goes 99 = .ok (.goto (-87), 3) := by decide +kernel
theorem dX10_goes_102 : decode cX10_goes 102 = .ok (.iconst 1, 1) := by decide +kernel
theorem dX10_goes_103 : decode cX10_goes 103 = .ok (.ireturn, 1) := by decide +kernel
theorem dX10_hasLaw_0 : decode cX10_hasLaw 0 = .ok (.aload_n 0, 1) := by decide +kernel
theorem dX10_hasLaw_1 : decode cX10_hasLaw 1 = .ok (.getfield 94, 3) := by decide +kernel
theorem dX10_hasLaw_4 : decode cX10_hasLaw 4 = .ok (.iload_n 1, 1) := by decide +kernel
theorem dX10_hasLaw_5 : decode cX10_hasLaw 5 = .ok (.iaload, 1) := by decide +kernel
theorem dX10_hasLaw_6 : decode cX10_hasLaw 6 = .ok (.aload_n 0, 1) := by decide +kernel
theorem dX10_hasLaw_7 : decode cX10_hasLaw 7 = .ok (.getfield 91, 3) := by decide +kernel
theorem dX10_hasLaw_10 : decode cX10_hasLaw 10 = .ok (.iload_n 1, 1) := by decide +kernel
theorem dX10_hasLaw_11 : decode cX10_hasLaw 11 = .ok (.iaload, 1) := by decide +kernel
theorem dX10_hasLaw_12 : decode cX10_hasLaw 12 = .ok (.if_icmp .le 7, 3) := by decide +kernel
theorem dX10_hasLaw_15 : decode cX10_hasLaw 15 = .ok (.iconst 1, 1) := by decide +kernel
theorem dX10_hasLaw_16 : decode cX10_hasLaw 16 = .ok (.goto 4, 3) := by decide +kernel
theorem dX10_hasLaw_19 : decode cX10_hasLaw 19 = .ok (.iconst 0, 1) := by decide +kernel
theorem dX10_hasLaw_20 : decode cX10_hasLaw 20 = .ok (.ireturn, 1) := by decide +kernel
theorem dX10_callsFade_0 : decode cX10_callsFade 0 = .ok (.iconst 0, 1) := by decide +kernel
theorem dX10_callsFade_1 : decode cX10_callsFade 1 = .ok (.istore 4, 2) := by decide +kernel
theorem dX10_callsFade_3 : decode cX10_callsFade 3 = .ok (.iload 4, 2) := by decide +kernel
theorem dX10_callsFade_5 : decode cX10_callsFade 5 = .ok (.bipush 6, 2) := by decide +kernel
theorem dX10_callsFade_7 : decode cX10_callsFade 7 = .ok (.if_icmp .ge 17, 3) := by decide +kernel
theorem dX10_callsFade_10 : decode cX10_callsFade 10 = .ok (.aload_n 0, 1) := by decide +kernel
theorem dX10_callsFade_11 : decode cX10_callsFade 11 = .ok (.getfield 107, 3) := by decide +kernel
theorem dX10_callsFade_14 : decode cX10_callsFade 14 = .ok (.iload 4, 2) := by decide +kernel
theorem dX10_callsFade_16 : decode cX10_callsFade 16 = .ok (.lconst 0, 1) := by decide +kernel
theorem dX10_callsFade_17 : decode cX10_callsFade 17 = .ok (.lastore, 1) := by decide +kernel
theorem dX10_callsFade_18 : decode cX10_callsFade 18 = .ok (.iinc 4 1, 3) := by decide +kernel
theorem dX10_callsFade_21 : decode cX10_callsFade 21 = .ok (.goto (-18), 3) := by decide +kernel
theorem dX10_callsFade_24 : decode cX10_callsFade 24 = .ok (.aload_n 0, 1) := by decide +kernel
theorem dX10_callsFade_25 : decode cX10_callsFade 25 = .ok (.getfield 107, 3) := by decide +kernel
theorem dX10_callsFade_28 : decode cX10_callsFade 28 = .ok (.iconst 0, 1) := by decide +kernel
theorem dX10_callsFade_29 : decode cX10_callsFade 29 = .ok (.iload_n 1, 1) := by decide +kernel
theorem dX10_callsFade_30 : decode cX10_callsFade 30 = .ok (.i2l, 1) := by decide +kernel
theorem dX10_callsFade_31 : decode cX10_callsFade 31 = .ok (.lastore, 1) := by decide +kernel
theorem dX10_callsFade_32 : decode cX10_callsFade 32 = .ok (.aload_n 0, 1) := by decide +kernel
theorem dX10_callsFade_33 : decode cX10_callsFade 33 = .ok (.getfield 107, 3) := by decide +kernel
theorem dX10_callsFade_36 : decode cX10_callsFade 36 = .ok (.iconst 1, 1) := by decide +kernel
theorem dX10_callsFade_37 : decode cX10_callsFade 37 = .ok (.iload_n 2, 1) := by decide +kernel
theorem dX10_callsFade_38 : decode cX10_callsFade 38 = .ok (.i2l, 1) := by decide +kernel
theorem dX10_callsFade_39 : decode cX10_callsFade 39 = .ok (.lastore, 1) := by decide +kernel
theorem dX10_callsFade_40 : decode cX10_callsFade 40 = .ok (.aload_n 0, 1) := by decide +kernel
theorem dX10_callsFade_41 : decode cX10_callsFade 41 = .ok (.getfield 107, 3) := by decide +kernel
theorem dX10_callsFade_44 : decode cX10_callsFade 44 = .ok (.iconst 2, 1) := by decide +kernel
theorem dX10_callsFade_45 : decode cX10_callsFade 45 = .ok (.iload_n 3, 1) := by decide +kernel
theorem dX10_callsFade_46 : decode cX10_callsFade 46 = .ok (.i2l, 1) := by decide +kernel
theorem dX10_callsFade_47 : decode cX10_callsFade 47 = .ok (.lastore, 1) := by decide +kernel
theorem dX10_callsFade_48 : decode cX10_callsFade 48 = .ok (.return_, 1) := by decide +kernel
theorem dX10_callsWorth_0 : decode cX10_callsWorth 0 = .ok (.iconst 0, 1) := by decide +kernel
theorem dX10_callsWorth_1 : decode cX10_callsWorth 1 = .ok (.istore 5, 2) := by decide +kernel
theorem dX10_callsWorth_3 : decode cX10_callsWorth 3 = .ok (.iload 5, 2) := by decide +kernel
theorem dX10_callsWorth_5 : decode cX10_callsWorth 5 = .ok (.bipush 6, 2) := by decide +kernel
theorem dX10_callsWorth_7 : decode cX10_callsWorth 7 = .ok (.if_icmp .ge 17, 3) := by decide +kernel
theorem dX10_callsWorth_10 : decode cX10_callsWorth 10 = .ok (.aload_n 0, 1) := by decide +kernel
theorem dX10_callsWorth_11 : decode cX10_callsWorth 11 = .ok (.getfield 107, 3) := by decide +kernel
theorem dX10_callsWorth_14 : decode cX10_callsWorth 14 = .ok (.iload 5, 2) := by decide +kernel
theorem dX10_callsWorth_16 : decode cX10_callsWorth 16 = .ok (.lconst 0, 1) := by decide +kernel
theorem dX10_callsWorth_17 : decode cX10_callsWorth 17 = .ok (.lastore, 1) := by decide +kernel
theorem dX10_callsWorth_18 : decode cX10_callsWorth 18 = .ok (.iinc 5 1, 3) := by decide +kernel
theorem dX10_callsWorth_21 : decode cX10_callsWorth 21 = .ok (.goto (-18), 3) := by decide +kernel
theorem dX10_callsWorth_24 : decode cX10_callsWorth 24 = .ok (.aload_n 0, 1) := by decide +kernel
theorem dX10_callsWorth_25 : decode cX10_callsWorth 25 = .ok (.getfield 107, 3) := by decide +kernel
theorem dX10_callsWorth_28 : decode cX10_callsWorth 28 = .ok (.iconst 3, 1) := by decide +kernel
theorem dX10_callsWorth_29 : decode cX10_callsWorth 29 = .ok (.iload_n 1, 1) := by decide +kernel
theorem dX10_callsWorth_30 : decode cX10_callsWorth 30 = .ok (.i2l, 1) := by decide +kernel
theorem dX10_callsWorth_31 : decode cX10_callsWorth 31 = .ok (.lastore, 1) := by decide +kernel
theorem dX10_callsWorth_32 : decode cX10_callsWorth 32 = .ok (.aload_n 0, 1) := by decide +kernel
theorem dX10_callsWorth_33 : decode cX10_callsWorth 33 = .ok (.getfield 107, 3) := by decide +kernel
theorem dX10_callsWorth_36 : decode cX10_callsWorth 36 = .ok (.iconst 4, 1) := by decide +kernel
theorem dX10_callsWorth_37 : decode cX10_callsWorth 37 = .ok (.iload_n 2, 1) := by decide +kernel
theorem dX10_callsWorth_38 : decode cX10_callsWorth 38 = .ok (.i2l, 1) := by decide +kernel
theorem dX10_callsWorth_39 : decode cX10_callsWorth 39 = .ok (.lastore, 1) := by decide +kernel
theorem dX10_callsWorth_40 : decode cX10_callsWorth 40 = .ok (.aload_n 0, 1) := by decide +kernel
theorem dX10_callsWorth_41 : decode cX10_callsWorth 41 = .ok (.getfield 107, 3) := by decide +kernel
theorem dX10_callsWorth_44 : decode cX10_callsWorth 44 = .ok (.iconst 5, 1) := by decide +kernel
theorem dX10_callsWorth_45 : decode cX10_callsWorth 45 = .ok (.iload_n 3, 1) := by decide +kernel
theorem dX10_callsWorth_46 : decode cX10_callsWorth 46 = .ok (.i2l, 1) := by decide +kernel
theorem dX10_callsWorth_47 : decode cX10_callsWorth 47 = .ok (.lastore, 1) := by decide +kernel
theorem dX10_callsWorth_48 : decode cX10_callsWorth 48 = .ok (.aload_n 0, 1) := by decide +kernel
theorem dX10_callsWorth_49 : decode cX10_callsWorth 49 = .ok (.getfield 107, 3) := by decide +kernel
theorem dX10_callsWorth_52 : decode cX10_callsWorth 52 = .ok (.iconst 2, 1) := by decide +kernel
theorem dX10_callsWorth_53 : decode cX10_callsWorth 53 = .ok (.iload 4, 2) := by decide +kernel
theorem dX10_callsWorth_55 : decode cX10_callsWorth 55 = .ok (.i2l, 1) := by decide +kernel
theorem dX10_callsWorth_56 : decode cX10_callsWorth 56 = .ok (.lastore, 1) := by decide +kernel
theorem dX10_callsWorth_57 : decode cX10_callsWorth 57 = .ok (.return_, 1) := by decide +kernel
theorem dX10_worthOf_0 : decode cX10_worthOf 0 = .ok (.aload_n 0, 1) := by decide +kernel
theorem dX10_worthOf_1 : decode cX10_worthOf 1 = .ok (.iload_n 1, 1) := by decide +kernel
theorem dX10_worthOf_2 : decode cX10_worthOf 2 = .ok (.iload_n 2, 1) := by decide +kernel
theorem dX10_worthOf_3 : decode cX10_worthOf 3 = .ok (.iload_n 3, 1) := by decide +kernel
theorem dX10_worthOf_4 : decode cX10_worthOf 4 = .ok (.iload 4, 2) := by decide +kernel
theorem dX10_worthOf_6 : decode cX10_worthOf 6 = .ok (.invokevirtual 436, 3) := by decide +kernel
theorem dX10_worthOf_9 : decode cX10_worthOf 9 = .ok (.aload_n 0, 1) := by decide +kernel
theorem dX10_worthOf_10 : decode cX10_worthOf 10 = .ok (.iconst 1, 1) := by decide +kernel
theorem dX10_worthOf_11 : decode cX10_worthOf 11 = .ok (.invokevirtual 440, 3) := by decide +kernel
theorem dX10_worthOf_14 : decode cX10_worthOf 14 = .ok (.ifCond .eq 11, 3) := by decide +kernel
theorem dX10_worthOf_17 : decode cX10_worthOf 17 = .ok (.aload_n 0, 1) := by decide +kernel
theorem dX10_worthOf_18 : decode cX10_worthOf 18 = .ok (.iconst 1, 1) := by decide +kernel
theorem dX10_worthOf_19 : decode cX10_worthOf 19 = .ok (.invokevirtual 443, 3) := by decide +kernel
theorem dX10_worthOf_22 : decode cX10_worthOf 22 = .ok (.ifCond .ne 5, 3) := by decide +kernel
theorem dX10_worthOf_25 : decode cX10_worthOf 25 = .ok (.iload_n 1, 1) := by decide +kernel
theorem dX10_worthOf_26 : decode cX10_worthOf 26 = .ok (.ireturn, 1) := by decide +kernel
theorem dX10_worthOf_27 : decode cX10_worthOf 27 = .ok (.lconst 0, 1) := by decide +kernel
theorem dX10_worthOf_28 : decode cX10_worthOf 28 = .ok (.ldc2_w 446, 3) := by decide +kernel
theorem dX10_worthOf_31 : decode cX10_worthOf 31 = .ok (.aload_n 0, 1) := by decide +kernel
theorem dX10_worthOf_32 : decode cX10_worthOf 32 = .ok (.getfield 111, 3) := by decide +kernel
theorem dX10_worthOf_35 : decode cX10_worthOf 35 = .ok (.iconst 0, 1) := by decide +kernel
theorem dX10_worthOf_36 : decode cX10_worthOf 36 = .ok (.laload, 1) := by decide +kernel
theorem dX10_worthOf_37 : decode cX10_worthOf 37 = .ok (.invokestatic 448, 3) := by decide +kernel
theorem dX10_worthOf_40 : decode cX10_worthOf 40 = .ok (.invokestatic 452, 3) := by decide +kernel
theorem dX10_worthOf_43 : decode cX10_worthOf 43 = .ok (.l2i, 1) := by decide +kernel
theorem dX10_worthOf_44 : decode cX10_worthOf 44 = .ok (.ireturn, 1) := by decide +kernel
theorem dX10_law_0 : decode cX10_law 0 = .ok (.aload_n 0, 1) := by decide +kernel
theorem dX10_law_1 : decode cX10_law 1 = .ok (.iconst 0, 1) := by decide +kernel
theorem dX10_law_2 : decode cX10_law 2 = .ok (.putfield 235, 3) := by decide +kernel
theorem dX10_law_5 : decode cX10_law 5 = .ok (.iload_n 1, 1) := by decide +kernel
theorem dX10_law_6 : decode cX10_law 6 = .ok (.ifCond .lt 38, 3) := by decide +kernel
theorem dX10_law_9 : decode cX10_law 9 = .ok (.iload_n 1, 1) := by decide +kernel
theorem dX10_law_10 : decode cX10_law 10 = .ok (.iconst 1, 1) := by decide +kernel
theorem dX10_law_11 : decode cX10_law 11 = .ok (.if_icmp .gt 33, 3) := by decide +kernel
theorem dX10_law_14 : decode cX10_law 14 = .ok (.aload_n 0, 1) := by decide +kernel
theorem dX10_law_15 : decode cX10_law 15 = .ok (.iload_n 1, 1) := by decide +kernel
theorem dX10_law_16 : decode cX10_law 16 = .ok (.invokevirtual 440, 3) := by decide +kernel
theorem dX10_law_19 : decode cX10_law 19 = .ok (.ifCond .eq 25, 3) := by decide +kernel
theorem dX10_law_22 : decode cX10_law 22 = .ok (.iload_n 2, 1) := by decide +kernel
theorem dX10_law_23 : decode cX10_law 23 = .ok (.invokestatic 455, 3) := by decide +kernel
theorem dX10_law_26 : decode cX10_law 26 = .ok (.ifCond .ne 18, 3) := by decide +kernel
theorem dX10_law_29 : decode cX10_law 29 = .ok (.iload_n 3, 1) := by decide +kernel
theorem dX10_law_30 : decode cX10_law 30 = .ok (.invokestatic 455, 3) := by decide +kernel
theorem dX10_law_33 : decode cX10_law 33 = .ok (.ifCond .ne 11, 3) := by decide +kernel
theorem dX10_law_36 : decode cX10_law 36 = .ok (.iload 4, 2) := by decide +kernel
theorem dX10_law_38 : decode cX10_law 38 = .ok (.invokestatic 455, 3) := by decide +kernel
theorem dX10_law_41 : decode cX10_law 41 = .ok (.ifCond .eq 7, 3) := by decide +kernel
theorem dX10_law_44 : decode cX10_law 44 = .ok (.ldc2_w 460, 3) := by decide +kernel
theorem dX10_law_47 : decode cX10_law 47 = .ok (.lreturn, 1) := by decide +kernel
theorem dX10_law_48 : decode cX10_law 48 = .ok (.iload_n 1, 1) := by decide +kernel
theorem dX10_law_49 : decode cX10_law 49 = .ok (.ifCond .ne 14, 3) := by decide +kernel
theorem dX10_law_52 : decode cX10_law 52 = .ok (.aload_n 0, 1) := by decide +kernel
theorem dX10_law_53 : decode cX10_law 53 = .ok (.iload_n 2, 1) := by decide +kernel
theorem dX10_law_54 : decode cX10_law 54 = .ok (.iload_n 3, 1) := by decide +kernel
theorem dX10_law_55 : decode cX10_law 55 = .ok (.iload 4, 2) := by decide +kernel
theorem dX10_law_57 : decode cX10_law 57 = .ok (.invokevirtual 462, 3) := by decide +kernel
theorem dX10_law_60 : decode cX10_law 60 = .ok (.goto 12, 3) := by decide +kernel
theorem dX10_law_63 : decode cX10_law 63 = .ok (.aload_n 0, 1) := by decide +kernel
theorem dX10_law_64 : decode cX10_law 64 = .ok (.iload_n 2, 1) := by decide +kernel
theorem dX10_law_65 : decode cX10_law 65 = .ok (.iload_n 3, 1) := by decide +kernel
theorem dX10_law_66 : decode cX10_law 66 = .ok (.iload 4, 2) := by decide +kernel
theorem dX10_law_68 : decode cX10_law 68 = .ok (.iconst 0, 1) := by decide +kernel
theorem dX10_law_69 : decode cX10_law 69 = .ok (.invokevirtual 436, 3) := by decide +kernel
theorem dX10_law_72 : decode cX10_law 72 = .ok (.aload_n 0, 1) := by decide +kernel
theorem dX10_law_73 : decode cX10_law 73 = .ok (.iload_n 1, 1) := by decide +kernel
theorem dX10_law_74 : decode cX10_law 74 = .ok (.invokevirtual 443, 3) := by decide +kernel
theorem dX10_law_77 : decode cX10_law 77 = .ok (.ifCond .eq 12, 3) := by decide +kernel
theorem dX10_law_80 : decode cX10_law 80 = .ok (.aload_n 0, 1) := by decide +kernel
theorem dX10_law_81 : decode cX10_law 81 = .ok (.getfield 111, 3) := by decide +kernel
theorem dX10_law_84 : decode cX10_law 84 = .ok (.iconst 0, 1) := by decide +kernel
theorem dX10_law_85 : decode cX10_law 85 = .ok (.laload, 1) := by decide +kernel
theorem dX10_law_86 : decode cX10_law 86 = .ok (.goto 6, 3) := by decide +kernel
theorem dX10_law_89 : decode cX10_law 89 = .ok (.ldc2_w 460, 3) := by decide +kernel
theorem dX10_law_92 : decode cX10_law 92 = .ok (.lreturn, 1) := by decide +kernel
theorem dX10_isOff_0 : decode cX10_isOff 0 = .ok (.iload_n 0, 1) := by decide +kernel
theorem dX10_isOff_1 : decode cX10_isOff 1 = .ok (.ifCond .lt 10, 3) := by decide +kernel
theorem dX10_isOff_4 : decode cX10_isOff 4 = .ok (.iload_n 0, 1) := by decide +kernel
theorem dX10_isOff_5 : decode cX10_isOff 5 = .ok (.sipush 9999, 3) := by decide +kernel
theorem dX10_isOff_8 : decode cX10_isOff 8 = .ok (.if_icmp .le 7, 3) := by decide +kernel
theorem dX10_isOff_11 : decode cX10_isOff 11 = .ok (.iconst 1, 1) := by decide +kernel
theorem dX10_isOff_12 : decode cX10_isOff 12 = .ok (.goto 4, 3) := by decide +kernel
theorem dX10_isOff_15 : decode cX10_isOff 15 = .ok (.iconst 0, 1) := by decide +kernel
theorem dX10_isOff_16 : decode cX10_isOff 16 = .ok (.ireturn, 1) := by decide +kernel
theorem dX10_begins_0 : decode cX10_begins 0 = .ok (.aload_n 0, 1) := by decide +kernel
theorem dX10_begins_1 : decode cX10_begins 1 = .ok (.getfield 114, 3) := by decide +kernel
theorem dX10_begins_4 : decode cX10_begins 4 = .ok (.iconst 0, 1) := by decide +kernel
theorem dX10_begins_5 : decode cX10_begins 5 = .ok (.iconst 0, 1) := by decide +kernel
theorem dX10_begins_6 : decode cX10_begins 6 = .ok (.iastore, 1) := by decide +kernel
theorem dX10_begins_7 : decode cX10_begins 7 = .ok (.iconst 0, 1) := by decide +kernel
theorem dX10_begins_8 : decode cX10_begins 8 = .ok (.istore_n 1, 1) := by decide +kernel
theorem dX10_begins_9 : decode cX10_begins 9 = .ok (.iload_n 1, 1) := by decide +kernel
theorem dX10_begins_10 : decode cX10_begins 10 = .ok (.aload_n 0, 1) := by decide +kernel
theorem dX10_begins_11 : decode cX10_begins 11 = .ok (.getfield 13, 3) := by decide +kernel
theorem dX10_begins_14 : decode cX10_begins 14 = .ok (.iconst 3, 1) := by decide +kernel
theorem dX10_begins_15 : decode cX10_begins 15 = .ok (.iaload, 1) := by decide +kernel
theorem dX10_begins_16 : decode cX10_begins 16 = .ok (.if_icmp .ge 43, 3) := by decide +kernel
theorem dX10_begins_19 : decode cX10_begins 19 = .ok (.aload_n 0, 1) := by decide +kernel
theorem dX10_begins_20 : decode cX10_begins 20 = .ok (.aload_n 0, 1) := by decide +kernel
theorem dX10_begins_21 : decode cX10_begins 21 = .ok (.getfield 37, 3) := by decide +kernel
theorem dX10_begins_24 : decode cX10_begins 24 = .ok (.iload_n 1, 1) := by decide +kernel
theorem dX10_begins_25 : decode cX10_begins 25 = .ok (.iaload, 1) := by decide +kernel
theorem dX10_begins_26 : decode cX10_begins 26 = .ok (.aload_n 0, 1) := by decide +kernel
theorem dX10_begins_27 : decode cX10_begins 27 = .ok (.getfield 40, 3) := by decide +kernel
theorem dX10_begins_30 : decode cX10_begins 30 = .ok (.iload_n 1, 1) := by decide +kernel
theorem dX10_begins_31 : decode cX10_begins 31 = .ok (.iaload, 1) := by decide +kernel
theorem dX10_begins_32 : decode cX10_begins 32 = .ok (.aload_n 0, 1) := by decide +kernel
theorem dX10_begins_33 : decode cX10_begins 33 = .ok (.getfield 43, 3) := by decide +kernel
theorem dX10_begins_36 : decode cX10_begins 36 = .ok (.iload_n 1, 1) := by decide +kernel
theorem dX10_begins_37 : decode cX10_begins 37 = .ok (.iaload, 1) := by decide +kernel
theorem dX10_begins_38 : decode cX10_begins 38 = .ok (.aload_n 0, 1) := by decide +kernel
theorem dX10_begins_39 : decode cX10_begins 39 = .ok (.getfield 46, 3) := by decide +kernel
theorem dX10_begins_42 : decode cX10_begins 42 = .ok (.iload_n 1, 1) := by decide +kernel
theorem dX10_begins_43 : decode cX10_begins 43 = .ok (.iaload, 1) := by decide +kernel
theorem dX10_begins_44 : decode cX10_begins 44 = .ok (.aload_n 0, 1) := by decide +kernel
theorem dX10_begins_45 : decode cX10_begins 45 = .ok (.getfield 49, 3) := by decide +kernel
theorem dX10_begins_48 : decode cX10_begins 48 = .ok (.iload_n 1, 1) := by decide +kernel
theorem dX10_begins_49 : decode cX10_begins 49 = .ok (.iaload, 1) := by decide +kernel
theorem dX10_begins_50 : decode cX10_begins 50 = .ok (.invokevirtual 466, 3) := by decide +kernel
theorem dX10_begins_53 : decode cX10_begins 53 = .ok (.iinc 1 1, 3) := by decide +kernel
theorem dX10_begins_56 : decode cX10_begins 56 = .ok (.goto (-47), 3) := by decide +kernel
theorem dX10_begins_59 : decode cX10_begins 59 = .ok (.aload_n 0, 1) := by decide +kernel
theorem dX10_begins_60 : decode cX10_begins 60 = .ok (.getfield 132, 3) := by decide +kernel
theorem dX10_begins_63 : decode cX10_begins 63 = .ok (.iconst 0, 1) := by decide +kernel
theorem dX10_begins_64 : decode cX10_begins 64 = .ok (.iconst 0, 1) := by decide +kernel
theorem dX10_begins_65 : decode cX10_begins 65 = .ok (.iastore, 1) := by decide +kernel
theorem dX10_begins_66 : decode cX10_begins 66 = .ok (.iconst 0, 1) := by decide +kernel
theorem dX10_begins_67 : decode cX10_begins 67 = .ok (.istore_n 1, 1) := by decide +kernel
theorem dX10_begins_68 : decode cX10_begins 68 = .ok (.iload_n 1, 1) := by decide +kernel
theorem dX10_begins_69 : decode cX10_begins 69 = .ok (.bipush 8, 2) := by decide +kernel
theorem dX10_begins_71 : decode cX10_begins 71 = .ok (.if_icmp .ge 35, 3) := by decide +kernel
theorem dX10_begins_74 : decode cX10_begins 74 = .ok (.aload_n 0, 1) := by decide +kernel
theorem dX10_begins_75 : decode cX10_begins 75 = .ok (.getfield 135, 3) := by decide +kernel
theorem dX10_begins_78 : decode cX10_begins 78 = .ok (.iload_n 1, 1) := by decide +kernel
theorem dX10_begins_79 : decode cX10_begins 79 = .ok (.iload_n 1, 1) := by decide +kernel
theorem dX10_begins_80 : decode cX10_begins 80 = .ok (.aload_n 0, 1) := by decide +kernel
theorem dX10_begins_81 : decode cX10_begins 81 = .ok (.getfield 13, 3) := by decide +kernel
theorem dX10_begins_84 : decode cX10_begins 84 = .ok (.iconst 4, 1) := by decide +kernel
theorem dX10_begins_85 : decode cX10_begins 85 = .ok (.iaload, 1) := by decide +kernel
theorem dX10_begins_86 : decode cX10_begins 86 = .ok (.if_icmp .ge 12, 3) := by decide +kernel
theorem dX10_begins_89 : decode cX10_begins 89 = .ok (.aload_n 0, 1) := by decide +kernel
theorem dX10_begins_90 : decode cX10_begins 90 = .ok (.getfield 52, 3) := by decide +kernel
theorem dX10_begins_93 : decode cX10_begins 93 = .ok (.iload_n 1, 1) := by decide +kernel
theorem dX10_begins_94 : decode cX10_begins 94 = .ok (.iaload, 1) := by decide +kernel
theorem dX10_begins_95 : decode cX10_begins 95 = .ok (.goto 4, 3) := by decide +kernel
theorem dX10_begins_98 : decode cX10_begins 98 = .ok (.iconst 0, 1) := by decide +kernel
theorem dX10_begins_99 : decode cX10_begins 99 = .ok (.iastore, 1) := by decide +kernel
theorem dX10_begins_100 : decode cX10_begins 100 = .ok (.iinc 1 1, 3) := by decide +kernel
theorem dX10_begins_103 : decode cX10_begins 103 = .ok (.goto (-35), 3) := by decide +kernel
theorem dX10_begins_106 : decode cX10_begins 106 = .ok (.aload_n 0, 1) := by decide +kernel
theorem dX10_begins_107 : decode cX10_begins 107 = .ok (.getfield 138, 3) := by decide +kernel
theorem dX10_begins_110 : decode cX10_begins 110 = .ok (.iconst 0, 1) := by decide +kernel
theorem dX10_begins_111 : decode cX10_begins 111 = .ok (.iconst 0, 1) := by decide +kernel
theorem dX10_begins_112 : decode cX10_begins 112 = .ok (.iastore, 1) := by decide +kernel
theorem dX10_begins_113 : decode cX10_begins 113 = .ok (.iconst 0, 1) := by decide +kernel
theorem dX10_begins_114 : decode cX10_begins 114 = .ok (.istore_n 1, 1) := by decide +kernel
theorem dX10_begins_115 : decode cX10_begins 115 = .ok (.iload_n 1, 1) := by decide +kernel
theorem dX10_begins_116 : decode cX10_begins 116 = .ok (.iconst 4, 1) := by decide +kernel
theorem dX10_begins_117 : decode cX10_begins 117 = .ok (.if_icmp .ge 35, 3) := by decide +kernel
theorem dX10_begins_120 : decode cX10_begins 120 = .ok (.aload_n 0, 1) := by decide +kernel
theorem dX10_begins_121 : decode cX10_begins 121 = .ok (.getfield 141, 3) := by decide +kernel
theorem dX10_begins_124 : decode cX10_begins 124 = .ok (.iload_n 1, 1) := by decide +kernel
theorem dX10_begins_125 : decode cX10_begins 125 = .ok (.iload_n 1, 1) := by decide +kernel
theorem dX10_begins_126 : decode cX10_begins 126 = .ok (.aload_n 0, 1) := by decide +kernel
theorem dX10_begins_127 : decode cX10_begins 127 = .ok (.getfield 13, 3) := by decide +kernel
theorem dX10_begins_130 : decode cX10_begins 130 = .ok (.iconst 2, 1) := by decide +kernel
theorem dX10_begins_131 : decode cX10_begins 131 = .ok (.iaload, 1) := by decide +kernel
theorem dX10_begins_132 : decode cX10_begins 132 = .ok (.if_icmp .ge 12, 3) := by decide +kernel
theorem dX10_begins_135 : decode cX10_begins 135 = .ok (.aload_n 0, 1) := by decide +kernel
theorem dX10_begins_136 : decode cX10_begins 136 = .ok (.getfield 31, 3) := by decide +kernel
theorem dX10_begins_139 : decode cX10_begins 139 = .ok (.iload_n 1, 1) := by decide +kernel
theorem dX10_begins_140 : decode cX10_begins 140 = .ok (.iaload, 1) := by decide +kernel
theorem dX10_begins_141 : decode cX10_begins 141 = .ok (.goto 4, 3) := by decide +kernel
theorem dX10_begins_144 : decode cX10_begins 144 = .ok (.iconst 0, 1) := by decide +kernel
theorem dX10_begins_145 : decode cX10_begins 145 = .ok (.iastore, 1) := by decide +kernel
theorem dX10_begins_146 : decode cX10_begins 146 = .ok (.iinc 1 1, 3) := by decide +kernel
theorem dX10_begins_149 : decode cX10_begins 149 = .ok (.goto (-34), 3) := by decide +kernel
theorem dX10_begins_152 : decode cX10_begins 152 = .ok (.aload_n 0, 1) := by decide +kernel
theorem dX10_begins_153 : decode cX10_begins 153 = .ok (.getfield 144, 3) := by decide +kernel
theorem dX10_begins_156 : decode cX10_begins 156 = .ok (.iconst 0, 1) := by decide +kernel
theorem dX10_begins_157 : decode cX10_begins 157 = .ok (.iconst 0, 1) := by decide +kernel
theorem dX10_begins_158 : decode cX10_begins 158 = .ok (.iastore, 1) := by decide +kernel
theorem dX10_begins_159 : decode cX10_begins 159 = .ok (.return_, 1) := by decide +kernel
theorem dX10_makes_0 : decode cX10_makes 0 = .ok (.aload_n 0, 1) := by decide +kernel
theorem dX10_makes_1 : decode cX10_makes 1 = .ok (.getfield 114, 3) := by decide +kernel
theorem dX10_makes_4 : decode cX10_makes 4 = .ok (.iconst 0, 1) := by decide +kernel
theorem dX10_makes_5 : decode cX10_makes 5 = .ok (.iaload, 1) := by decide +kernel
theorem dX10_makes_6 : decode cX10_makes 6 = .ok (.istore 6, 2) := by decide +kernel
theorem dX10_makes_8 : decode cX10_makes 8 = .ok (.aload_n 0, 1) := by decide +kernel
theorem dX10_makes_9 : decode cX10_makes 9 = .ok (.getfield 117, 3) := by decide +kernel
theorem dX10_makes_12 : decode cX10_makes 12 = .ok (.iload 6, 2) := by decide +kernel
theorem dX10_makes_14 : decode cX10_makes 14 = .ok (.iload_n 1, 1) := by decide +kernel
theorem dX10_makes_15 : decode cX10_makes 15 = .ok (.iastore, 1) := by decide +kernel
theorem dX10_makes_16 : decode cX10_makes 16 = .ok (.aload_n 0, 1) := by decide +kernel
theorem dX10_makes_17 : decode cX10_makes 17 = .ok (.getfield 120, 3) := by decide +kernel
theorem dX10_makes_20 : decode cX10_makes 20 = .ok (.iload 6, 2) := by decide +kernel
theorem dX10_makes_22 : decode cX10_makes 22 = .ok (.iload_n 2, 1) := by decide +kernel
theorem dX10_makes_23 : decode cX10_makes 23 = .ok (.iastore, 1) := by decide +kernel
theorem dX10_makes_24 : decode cX10_makes 24 = .ok (.aload_n 0, 1) := by decide +kernel
theorem dX10_makes_25 : decode cX10_makes 25 = .ok (.getfield 123, 3) := by decide +kernel
theorem dX10_makes_28 : decode cX10_makes 28 = .ok (.iload 6, 2) := by decide +kernel
theorem dX10_makes_30 : decode cX10_makes 30 = .ok (.iload_n 3, 1) := by decide +kernel
theorem dX10_makes_31 : decode cX10_makes 31 = .ok (.iastore, 1) := by decide +kernel
theorem dX10_makes_32 : decode cX10_makes 32 = .ok (.aload_n 0, 1) := by decide +kernel
theorem dX10_makes_33 : decode cX10_makes 33 = .ok (.getfield 126, 3) := by decide +kernel
theorem dX10_makes_36 : decode cX10_makes 36 = .ok (.iload 6, 2) := by decide +kernel
theorem dX10_makes_38 : decode cX10_makes 38 = .ok (.iload 4, 2) := by decide +kernel
theorem dX10_makes_40 : decode cX10_makes 40 = .ok (.iastore, 1) := by decide +kernel
theorem dX10_makes_41 : decode cX10_makes 41 = .ok (.aload_n 0, 1) := by decide +kernel
theorem dX10_makes_42 : decode cX10_makes 42 = .ok (.getfield 129, 3) := by decide +kernel
theorem dX10_makes_45 : decode cX10_makes 45 = .ok (.iload 6, 2) := by decide +kernel
theorem dX10_makes_47 : decode cX10_makes 47 = .ok (.iload 5, 2) := by decide +kernel
theorem dX10_makes_49 : decode cX10_makes 49 = .ok (.iastore, 1) := by decide +kernel
theorem dX10_makes_50 : decode cX10_makes 50 = .ok (.aload_n 0, 1) := by decide +kernel
theorem dX10_makes_51 : decode cX10_makes 51 = .ok (.getfield 114, 3) := by decide +kernel
theorem dX10_makes_54 : decode cX10_makes 54 = .ok (.iconst 0, 1) := by decide +kernel
theorem dX10_makes_55 : decode cX10_makes 55 = .ok (.dup2, 1) := by decide +kernel
theorem dX10_makes_56 : decode cX10_makes 56 = .ok (.iaload, 1) := by decide +kernel
theorem dX10_makes_57 : decode cX10_makes 57 = .ok (.iconst 1, 1) := by decide +kernel
theorem dX10_makes_58 : decode cX10_makes 58 = .ok (.iadd, 1) := by decide +kernel
theorem dX10_makes_59 : decode cX10_makes 59 = .ok (.iastore, 1) := by decide +kernel
theorem dX10_makes_60 : decode cX10_makes 60 = .ok (.return_, 1) := by decide +kernel
theorem dX10_copies_0 : decode cX10_copies 0 = .ok (.aload_n 0, 1) := by decide +kernel
theorem dX10_copies_1 : decode cX10_copies 1 = .ok (.getfield 114, 3) := by decide +kernel
theorem dX10_copies_4 : decode cX10_copies 4 = .ok (.iload_n 1, 1) := by decide +kernel
theorem dX10_copies_5 : decode cX10_copies 5 = .ok (.aload_n 0, 1) := by decide +kernel
theorem dX10_copies_6 : decode cX10_copies 6 = .ok (.getfield 114, 3) := by decide +kernel
theorem dX10_copies_9 : decode cX10_copies 9 = .ok (.iload_n 2, 1) := by decide +kernel
theorem dX10_copies_10 : decode cX10_copies 10 = .ok (.iaload, 1) := by decide +kernel
theorem dX10_copies_11 : decode cX10_copies 11 = .ok (.iastore, 1) := by decide +kernel
theorem dX10_copies_12 : decode cX10_copies 12 = .ok (.iconst 0, 1) := by decide +kernel
theorem dX10_copies_13 : decode cX10_copies 13 = .ok (.istore_n 3, 1) := by decide +kernel
theorem dX10_copies_14 : decode cX10_copies 14 = .ok (.iload_n 3, 1) := by decide +kernel
theorem dX10_copies_15 : decode cX10_copies 15 = .ok (.aload_n 0, 1) := by decide +kernel
theorem dX10_copies_16 : decode cX10_copies 16 = .ok (.getfield 114, 3) := by decide +kernel
theorem dX10_copies_19 : decode cX10_copies 19 = .ok (.iload_n 2, 1) := by decide +kernel
theorem dX10_copies_20 : decode cX10_copies 20 = .ok (.iaload, 1) := by decide +kernel
theorem dX10_copies_21 : decode cX10_copies 21 = .ok (.if_icmp .ge 119, 3) := by decide +kernel
theorem dX10_copies_24 : decode cX10_copies 24 = .ok (.aload_n 0, 1) := by decide +kernel
theorem dX10_copies_25 : decode cX10_copies 25 = .ok (.getfield 117, 3) := by decide +kernel
theorem dX10_copies_28 : decode cX10_copies 28 = .ok (.bipush 12, 2) := by decide +kernel
theorem dX10_copies_30 : decode cX10_copies 30 = .ok (.iload_n 1, 1) := by decide +kernel
theorem dX10_copies_31 : decode cX10_copies 31 = .ok (.imul, 1) := by decide +kernel
theorem dX10_copies_32 : decode cX10_copies 32 = .ok (.iload_n 3, 1) := by decide +kernel
theorem dX10_copies_33 : decode cX10_copies 33 = .ok (.iadd, 1) := by decide +kernel
theorem dX10_copies_34 : decode cX10_copies 34 = .ok (.aload_n 0, 1) := by decide +kernel
theorem dX10_copies_35 : decode cX10_copies 35 = .ok (.getfield 117, 3) := by decide +kernel
theorem dX10_copies_38 : decode cX10_copies 38 = .ok (.bipush 12, 2) := by decide +kernel
theorem dX10_copies_40 : decode cX10_copies 40 = .ok (.iload_n 2, 1) := by decide +kernel
theorem dX10_copies_41 : decode cX10_copies 41 = .ok (.imul, 1) := by decide +kernel
theorem dX10_copies_42 : decode cX10_copies 42 = .ok (.iload_n 3, 1) := by decide +kernel
theorem dX10_copies_43 : decode cX10_copies 43 = .ok (.iadd, 1) := by decide +kernel
theorem dX10_copies_44 : decode cX10_copies 44 = .ok (.iaload, 1) := by decide +kernel
theorem dX10_copies_45 : decode cX10_copies 45 = .ok (.iastore, 1) := by decide +kernel
theorem dX10_copies_46 : decode cX10_copies 46 = .ok (.aload_n 0, 1) := by decide +kernel
theorem dX10_copies_47 : decode cX10_copies 47 = .ok (.getfield 120, 3) := by decide +kernel
theorem dX10_copies_50 : decode cX10_copies 50 = .ok (.bipush 12, 2) := by decide +kernel
theorem dX10_copies_52 : decode cX10_copies 52 = .ok (.iload_n 1, 1) := by decide +kernel
theorem dX10_copies_53 : decode cX10_copies 53 = .ok (.imul, 1) := by decide +kernel
theorem dX10_copies_54 : decode cX10_copies 54 = .ok (.iload_n 3, 1) := by decide +kernel
theorem dX10_copies_55 : decode cX10_copies 55 = .ok (.iadd, 1) := by decide +kernel
theorem dX10_copies_56 : decode cX10_copies 56 = .ok (.aload_n 0, 1) := by decide +kernel
theorem dX10_copies_57 : decode cX10_copies 57 = .ok (.getfield 120, 3) := by decide +kernel
theorem dX10_copies_60 : decode cX10_copies 60 = .ok (.bipush 12, 2) := by decide +kernel
theorem dX10_copies_62 : decode cX10_copies 62 = .ok (.iload_n 2, 1) := by decide +kernel
theorem dX10_copies_63 : decode cX10_copies 63 = .ok (.imul, 1) := by decide +kernel
theorem dX10_copies_64 : decode cX10_copies 64 = .ok (.iload_n 3, 1) := by decide +kernel
theorem dX10_copies_65 : decode cX10_copies 65 = .ok (.iadd, 1) := by decide +kernel
theorem dX10_copies_66 : decode cX10_copies 66 = .ok (.iaload, 1) := by decide +kernel
theorem dX10_copies_67 : decode cX10_copies 67 = .ok (.iastore, 1) := by decide +kernel
theorem dX10_copies_68 : decode cX10_copies 68 = .ok (.aload_n 0, 1) := by decide +kernel
theorem dX10_copies_69 : decode cX10_copies 69 = .ok (.getfield 123, 3) := by decide +kernel
theorem dX10_copies_72 : decode cX10_copies 72 = .ok (.bipush 12, 2) := by decide +kernel
theorem dX10_copies_74 : decode cX10_copies 74 = .ok (.iload_n 1, 1) := by decide +kernel
theorem dX10_copies_75 : decode cX10_copies 75 = .ok (.imul, 1) := by decide +kernel
theorem dX10_copies_76 : decode cX10_copies 76 = .ok (.iload_n 3, 1) := by decide +kernel
theorem dX10_copies_77 : decode cX10_copies 77 = .ok (.iadd, 1) := by decide +kernel
theorem dX10_copies_78 : decode cX10_copies 78 = .ok (.aload_n 0, 1) := by decide +kernel
theorem dX10_copies_79 : decode cX10_copies 79 = .ok (.getfield 123, 3) := by decide +kernel
theorem dX10_copies_82 : decode cX10_copies 82 = .ok (.bipush 12, 2) := by decide +kernel
theorem dX10_copies_84 : decode cX10_copies 84 = .ok (.iload_n 2, 1) := by decide +kernel
theorem dX10_copies_85 : decode cX10_copies 85 = .ok (.imul, 1) := by decide +kernel
theorem dX10_copies_86 : decode cX10_copies 86 = .ok (.iload_n 3, 1) := by decide +kernel
theorem dX10_copies_87 : decode cX10_copies 87 = .ok (.iadd, 1) := by decide +kernel
theorem dX10_copies_88 : decode cX10_copies 88 = .ok (.iaload, 1) := by decide +kernel
theorem dX10_copies_89 : decode cX10_copies 89 = .ok (.iastore, 1) := by decide +kernel
theorem dX10_copies_90 : decode cX10_copies 90 = .ok (.aload_n 0, 1) := by decide +kernel
theorem dX10_copies_91 : decode cX10_copies 91 = .ok (.getfield 126, 3) := by decide +kernel
theorem dX10_copies_94 : decode cX10_copies 94 = .ok (.bipush 12, 2) := by decide +kernel
theorem dX10_copies_96 : decode cX10_copies 96 = .ok (.iload_n 1, 1) := by decide +kernel
theorem dX10_copies_97 : decode cX10_copies 97 = .ok (.imul, 1) := by decide +kernel
theorem dX10_copies_98 : decode cX10_copies 98 = .ok (.iload_n 3, 1) := by decide +kernel
theorem dX10_copies_99 : decode cX10_copies 99 = .ok (.iadd, 1) := by decide +kernel
theorem dX10_copies_100 : decode cX10_copies 100 = .ok (.aload_n 0, 1) := by decide +kernel
theorem dX10_copies_101 : decode cX10_copies 101 = .ok (.getfield 126, 3) := by decide +kernel
theorem dX10_copies_104 : decode cX10_copies 104 = .ok (.bipush 12, 2) := by decide +kernel
theorem dX10_copies_106 : decode cX10_copies 106 = .ok (.iload_n 2, 1) := by decide +kernel
theorem dX10_copies_107 : decode cX10_copies 107 = .ok (.imul, 1) := by decide +kernel
theorem dX10_copies_108 : decode cX10_copies 108 = .ok (.iload_n 3, 1) := by decide +kernel
theorem dX10_copies_109 : decode cX10_copies 109 = .ok (.iadd, 1) := by decide +kernel
theorem dX10_copies_110 : decode cX10_copies 110 = .ok (.iaload, 1) := by decide +kernel
theorem dX10_copies_111 : decode cX10_copies 111 = .ok (.iastore, 1) := by decide +kernel
theorem dX10_copies_112 : decode cX10_copies 112 = .ok (.aload_n 0, 1) := by decide +kernel
theorem dX10_copies_113 : decode cX10_copies 113 = .ok (.getfield 129, 3) := by decide +kernel
theorem dX10_copies_116 : decode cX10_copies 116 = .ok (.bipush 12, 2) := by decide +kernel
theorem dX10_copies_118 : decode cX10_copies 118 = .ok (.iload_n 1, 1) := by decide +kernel
theorem dX10_copies_119 : decode cX10_copies 119 = .ok (.imul, 1) := by decide +kernel
theorem dX10_copies_120 : decode cX10_copies 120 = .ok (.iload_n 3, 1) := by decide +kernel
theorem dX10_copies_121 : decode cX10_copies 121 = .ok (.iadd, 1) := by decide +kernel
theorem dX10_copies_122 : decode cX10_copies 122 = .ok (.aload_n 0, 1) := by decide +kernel
theorem dX10_copies_123 : decode cX10_copies 123 = .ok (.getfield 129, 3) := by decide +kernel
theorem dX10_copies_126 : decode cX10_copies 126 = .ok (.bipush 12, 2) := by decide +kernel
theorem dX10_copies_128 : decode cX10_copies 128 = .ok (.iload_n 2, 1) := by decide +kernel
theorem dX10_copies_129 : decode cX10_copies 129 = .ok (.imul, 1) := by decide +kernel
theorem dX10_copies_130 : decode cX10_copies 130 = .ok (.iload_n 3, 1) := by decide +kernel
theorem dX10_copies_131 : decode cX10_copies 131 = .ok (.iadd, 1) := by decide +kernel
theorem dX10_copies_132 : decode cX10_copies 132 = .ok (.iaload, 1) := by decide +kernel
theorem dX10_copies_133 : decode cX10_copies 133 = .ok (.iastore, 1) := by decide +kernel
theorem dX10_copies_134 : decode cX10_copies 134 = .ok (.iinc 3 1, 3) := by decide +kernel
theorem dX10_copies_137 : decode cX10_copies 137 = .ok (.goto (-123), 3) := by decide +kernel
theorem dX10_copies_140 : decode cX10_copies 140 = .ok (.aload_n 0, 1) := by decide +kernel
theorem dX10_copies_141 : decode cX10_copies 141 = .ok (.getfield 132, 3) := by decide +kernel
theorem dX10_copies_144 : decode cX10_copies 144 = .ok (.iload_n 1, 1) := by decide +kernel
theorem dX10_copies_145 : decode cX10_copies 145 = .ok (.aload_n 0, 1) := by decide +kernel
theorem dX10_copies_146 : decode cX10_copies 146 = .ok (.getfield 132, 3) := by decide +kernel
theorem dX10_copies_149 : decode cX10_copies 149 = .ok (.iload_n 2, 1) := by decide +kernel
theorem dX10_copies_150 : decode cX10_copies 150 = .ok (.iaload, 1) := by decide +kernel
theorem dX10_copies_151 : decode cX10_copies 151 = .ok (.iastore, 1) := by decide +kernel
theorem dX10_copies_152 : decode cX10_copies 152 = .ok (.iconst 0, 1) := by decide +kernel
theorem dX10_copies_153 : decode cX10_copies 153 = .ok (.istore_n 3, 1) := by decide +kernel
theorem dX10_copies_154 : decode cX10_copies 154 = .ok (.iload_n 3, 1) := by decide +kernel
theorem dX10_copies_155 : decode cX10_copies 155 = .ok (.bipush 8, 2) := by decide +kernel
theorem dX10_copies_157 : decode cX10_copies 157 = .ok (.if_icmp .ge 31, 3) := by decide +kernel
theorem dX10_copies_160 : decode cX10_copies 160 = .ok (.aload_n 0, 1) := by decide +kernel
theorem dX10_copies_161 : decode cX10_copies 161 = .ok (.getfield 135, 3) := by decide +kernel
theorem dX10_copies_164 : decode cX10_copies 164 = .ok (.bipush 8, 2) := by decide +kernel
theorem dX10_copies_166 : decode cX10_copies 166 = .ok (.iload_n 1, 1) := by decide +kernel
theorem dX10_copies_167 : decode cX10_copies 167 = .ok (.imul, 1) := by decide +kernel
theorem dX10_copies_168 : decode cX10_copies 168 = .ok (.iload_n 3, 1) := by decide +kernel
theorem dX10_copies_169 : decode cX10_copies 169 = .ok (.iadd, 1) := by decide +kernel
theorem dX10_copies_170 : decode cX10_copies 170 = .ok (.aload_n 0, 1) := by decide +kernel
theorem dX10_copies_171 : decode cX10_copies 171 = .ok (.getfield 135, 3) := by decide +kernel
theorem dX10_copies_174 : decode cX10_copies 174 = .ok (.bipush 8, 2) := by decide +kernel
theorem dX10_copies_176 : decode cX10_copies 176 = .ok (.iload_n 2, 1) := by decide +kernel
theorem dX10_copies_177 : decode cX10_copies 177 = .ok (.imul, 1) := by decide +kernel
theorem dX10_copies_178 : decode cX10_copies 178 = .ok (.iload_n 3, 1) := by decide +kernel
theorem dX10_copies_179 : decode cX10_copies 179 = .ok (.iadd, 1) := by decide +kernel
theorem dX10_copies_180 : decode cX10_copies 180 = .ok (.iaload, 1) := by decide +kernel
theorem dX10_copies_181 : decode cX10_copies 181 = .ok (.iastore, 1) := by decide +kernel
theorem dX10_copies_182 : decode cX10_copies 182 = .ok (.iinc 3 1, 3) := by decide +kernel
theorem dX10_copies_185 : decode cX10_copies 185 = .ok (.goto (-31), 3) := by decide +kernel
theorem dX10_copies_188 : decode cX10_copies 188 = .ok (.aload_n 0, 1) := by decide +kernel
theorem dX10_copies_189 : decode cX10_copies 189 = .ok (.getfield 138, 3) := by decide +kernel
theorem dX10_copies_192 : decode cX10_copies 192 = .ok (.iload_n 1, 1) := by decide +kernel
theorem dX10_copies_193 : decode cX10_copies 193 = .ok (.aload_n 0, 1) := by decide +kernel
theorem dX10_copies_194 : decode cX10_copies 194 = .ok (.getfield 138, 3) := by decide +kernel
theorem dX10_copies_197 : decode cX10_copies 197 = .ok (.iload_n 2, 1) := by decide +kernel
theorem dX10_copies_198 : decode cX10_copies 198 = .ok (.iaload, 1) := by decide +kernel
theorem dX10_copies_199 : decode cX10_copies 199 = .ok (.iastore, 1) := by decide +kernel
theorem dX10_copies_200 : decode cX10_copies 200 = .ok (.iconst 0, 1) := by decide +kernel
theorem dX10_copies_201 : decode cX10_copies 201 = .ok (.istore_n 3, 1) := by decide +kernel
theorem dX10_copies_202 : decode cX10_copies 202 = .ok (.iload_n 3, 1) := by decide +kernel
theorem dX10_copies_203 : decode cX10_copies 203 = .ok (.iconst 4, 1) := by decide +kernel
theorem dX10_copies_204 : decode cX10_copies 204 = .ok (.if_icmp .ge 29, 3) := by decide +kernel
theorem dX10_copies_207 : decode cX10_copies 207 = .ok (.aload_n 0, 1) := by decide +kernel
theorem dX10_copies_208 : decode cX10_copies 208 = .ok (.getfield 141, 3) := by decide +kernel
theorem dX10_copies_211 : decode cX10_copies 211 = .ok (.iconst 4, 1) := by decide +kernel
theorem dX10_copies_212 : decode cX10_copies 212 = .ok (.iload_n 1, 1) := by decide +kernel
theorem dX10_copies_213 : decode cX10_copies 213 = .ok (.imul, 1) := by decide +kernel
theorem dX10_copies_214 : decode cX10_copies 214 = .ok (.iload_n 3, 1) := by decide +kernel
theorem dX10_copies_215 : decode cX10_copies 215 = .ok (.iadd, 1) := by decide +kernel
theorem dX10_copies_216 : decode cX10_copies 216 = .ok (.aload_n 0, 1) := by decide +kernel
theorem dX10_copies_217 : decode cX10_copies 217 = .ok (.getfield 141, 3) := by decide +kernel
theorem dX10_copies_220 : decode cX10_copies 220 = .ok (.iconst 4, 1) := by decide +kernel
theorem dX10_copies_221 : decode cX10_copies 221 = .ok (.iload_n 2, 1) := by decide +kernel
theorem dX10_copies_222 : decode cX10_copies 222 = .ok (.imul, 1) := by decide +kernel
theorem dX10_copies_223 : decode cX10_copies 223 = .ok (.iload_n 3, 1) := by decide +kernel
theorem dX10_copies_224 : decode cX10_copies 224 = .ok (.iadd, 1) := by decide +kernel
theorem dX10_copies_225 : decode cX10_copies 225 = .ok (.iaload, 1) := by decide +kernel
theorem dX10_copies_226 : decode cX10_copies 226 = .ok (.iastore, 1) := by decide +kernel
theorem dX10_copies_227 : decode cX10_copies 227 = .ok (.iinc 3 1, 3) := by decide +kernel
theorem dX10_copies_230 : decode cX10_copies 230 = .ok (.goto (-28), 3) := by decide +kernel
theorem dX10_copies_233 : decode cX10_copies 233 = .ok (.aload_n 0, 1) := by decide +kernel
theorem dX10_copies_234 : decode cX10_copies 234 = .ok (.getfield 144, 3) := by decide +kernel
theorem dX10_copies_237 : decode cX10_copies 237 = .ok (.iload_n 1, 1) := by decide +kernel
theorem dX10_copies_238 : decode cX10_copies 238 = .ok (.aload_n 0, 1) := by decide +kernel
theorem dX10_copies_239 : decode cX10_copies 239 = .ok (.getfield 144, 3) := by decide +kernel
theorem dX10_copies_242 : decode cX10_copies 242 = .ok (.iload_n 2, 1) := by decide +kernel
theorem dX10_copies_243 : decode cX10_copies 243 = .ok (.iaload, 1) := by decide +kernel
theorem dX10_copies_244 : decode cX10_copies 244 = .ok (.iastore, 1) := by decide +kernel
theorem dX10_copies_245 : decode cX10_copies 245 = .ok (.return_, 1) := by decide +kernel
theorem dX10_isPlace_0 : decode cX10_isPlace 0 = .ok (.iload_n 1, 1) := by decide +kernel
theorem dX10_isPlace_1 : decode cX10_isPlace 1 = .ok (.ifCond .lt 17, 3) := by decide +kernel
theorem dX10_isPlace_4 : decode cX10_isPlace 4 = .ok (.iload_n 1, 1) := by decide +kernel
theorem dX10_isPlace_5 : decode cX10_isPlace 5 = .ok (.aload_n 0, 1) := by decide +kernel
theorem dX10_isPlace_6 : decode cX10_isPlace 6 = .ok (.getfield 13, 3) := by decide +kernel
theorem dX10_isPlace_9 : decode cX10_isPlace 9 = .ok (.iconst 0, 1) := by decide +kernel
theorem dX10_isPlace_10 : decode cX10_isPlace 10 = .ok (.iaload, 1) := by decide +kernel
theorem dX10_isPlace_11 : decode cX10_isPlace 11 = .ok (.if_icmp .ge 7, 3) := by decide +kernel
theorem dX10_isPlace_14 : decode cX10_isPlace 14 = .ok (.iconst 1, 1) := by decide +kernel
theorem dX10_isPlace_15 : decode cX10_isPlace 15 = .ok (.goto 4, 3) := by decide +kernel
theorem dX10_isPlace_18 : decode cX10_isPlace 18 = .ok (.iconst 0, 1) := by decide +kernel
theorem dX10_isPlace_19 : decode cX10_isPlace 19 = .ok (.ireturn, 1) := by decide +kernel
theorem dX10_isOwner_0 : decode cX10_isOwner 0 = .ok (.iload_n 1, 1) := by decide +kernel
theorem dX10_isOwner_1 : decode cX10_isOwner 1 = .ok (.ifCond .lt 17, 3) := by decide +kernel
theorem dX10_isOwner_4 : decode cX10_isOwner 4 = .ok (.iload_n 1, 1) := by decide +kernel
theorem dX10_isOwner_5 : decode cX10_isOwner 5 = .ok (.aload_n 0, 1) := by decide +kernel
theorem dX10_isOwner_6 : decode cX10_isOwner 6 = .ok (.getfield 13, 3) := by decide +kernel
theorem dX10_isOwner_9 : decode cX10_isOwner 9 = .ok (.iconst 2, 1) := by decide +kernel
theorem dX10_isOwner_10 : decode cX10_isOwner 10 = .ok (.iaload, 1) := by decide +kernel
theorem dX10_isOwner_11 : decode cX10_isOwner 11 = .ok (.if_icmp .ge 7, 3) := by decide +kernel
theorem dX10_isOwner_14 : decode cX10_isOwner 14 = .ok (.iconst 1, 1) := by decide +kernel
theorem dX10_isOwner_15 : decode cX10_isOwner 15 = .ok (.goto 4, 3) := by decide +kernel
theorem dX10_isOwner_18 : decode cX10_isOwner 18 = .ok (.iconst 0, 1) := by decide +kernel
theorem dX10_isOwner_19 : decode cX10_isOwner 19 = .ok (.ireturn, 1) := by decide +kernel
theorem dX10_isNoise_0 : decode cX10_isNoise 0 = .ok (.iload_n 1, 1) := by decide +kernel
theorem dX10_isNoise_1 : decode cX10_isNoise 1 = .ok (.ifCond .lt 17, 3) := by decide +kernel
theorem dX10_isNoise_4 : decode cX10_isNoise 4 = .ok (.iload_n 1, 1) := by decide +kernel
theorem dX10_isNoise_5 : decode cX10_isNoise 5 = .ok (.aload_n 0, 1) := by decide +kernel
theorem dX10_isNoise_6 : decode cX10_isNoise 6 = .ok (.getfield 114, 3) := by decide +kernel
theorem dX10_isNoise_9 : decode cX10_isNoise 9 = .ok (.iconst 0, 1) := by decide +kernel
theorem dX10_isNoise_10 : decode cX10_isNoise 10 = .ok (.iaload, 1) := by decide +kernel
theorem dX10_isNoise_11 : decode cX10_isNoise 11 = .ok (.if_icmp .ge 7, 3) := by decide +kernel
theorem dX10_isNoise_14 : decode cX10_isNoise 14 = .ok (.iconst 1, 1) := by decide +kernel
theorem dX10_isNoise_15 : decode cX10_isNoise 15 = .ok (.goto 4, 3) := by decide +kernel
theorem dX10_isNoise_18 : decode cX10_isNoise 18 = .ok (.iconst 0, 1) := by decide +kernel
theorem dX10_isNoise_19 : decode cX10_isNoise 19 = .ok (.ireturn, 1) := by decide +kernel
theorem dX10_isMinute_0 : decode cX10_isMinute 0 = .ok (.iload_n 0, 1) := by decide +kernel
theorem dX10_isMinute_1 : decode cX10_isMinute 1 = .ok (.ifCond .lt 13, 3) := by decide +kernel
theorem dX10_isMinute_4 : decode cX10_isMinute 4 = .ok (.iload_n 0, 1) := by decide +kernel
theorem dX10_isMinute_5 : decode cX10_isMinute 5 = .ok (.bipush 48, 2) := by decide +kernel
theorem dX10_isMinute_7 : decode cX10_isMinute 7 = .ok (.if_icmp .ge 7, 3) := by decide +kernel
theorem dX10_isMinute_10 : decode cX10_isMinute 10 = .ok (.iconst 1, 1) := by decide +kernel
theorem dX10_isMinute_11 : decode cX10_isMinute 11 = .ok (.goto 4, 3) := by decide +kernel
theorem dX10_isMinute_14 : decode cX10_isMinute 14 = .ok (.iconst 0, 1) := by decide +kernel
theorem dX10_isMinute_15 : decode cX10_isMinute 15 = .ok (.ireturn, 1) := by decide +kernel
theorem dX10_isLoud_0 : decode cX10_isLoud 0 = .ok (.iload_n 0, 1) := by decide +kernel
theorem dX10_isLoud_1 : decode cX10_isLoud 1 = .ok (.iconst 1, 1) := by decide +kernel
theorem dX10_isLoud_2 : decode cX10_isLoud 2 = .ok (.if_icmp .lt 13, 3) := by decide +kernel
theorem dX10_isLoud_5 : decode cX10_isLoud 5 = .ok (.iload_n 0, 1) := by decide +kernel
theorem dX10_isLoud_6 : decode cX10_isLoud 6 = .ok (.bipush 20, 2) := by decide +kernel
theorem dX10_isLoud_8 : decode cX10_isLoud 8 = .ok (.if_icmp .gt 7, 3) := by decide +kernel
theorem dX10_isLoud_11 : decode cX10_isLoud 11 = .ok (.iconst 1, 1) := by decide +kernel
theorem dX10_isLoud_12 : decode cX10_isLoud 12 = .ok (.goto 4, 3) := by decide +kernel
theorem dX10_isLoud_15 : decode cX10_isLoud 15 = .ok (.iconst 0, 1) := by decide +kernel
theorem dX10_isLoud_16 : decode cX10_isLoud 16 = .ok (.ireturn, 1) := by decide +kernel
theorem dX10_layNoises_0 : decode cX10_layNoises 0 = .ok (.aload_n 0, 1) := by decide +kernel
theorem dX10_layNoises_1 : decode cX10_layNoises 1 = .ok (.aload_n 0, 1) := by decide +kernel
theorem dX10_layNoises_2 : decode cX10_layNoises 2 = .ok (.getfield 114, 3) := by decide +kernel
theorem dX10_layNoises_5 : decode cX10_layNoises 5 = .ok (.iconst 0, 1) := by decide +kernel
theorem dX10_layNoises_6 : decode cX10_layNoises 6 = .ok (.iaload, 1) := by decide +kernel
theorem dX10_layNoises_7 : decode cX10_layNoises 7 = .ok (.putfield 470, 3) := by decide +kernel
theorem dX10_layNoises_10 : decode cX10_layNoises 10 = .ok (.iconst 0, 1) := by decide +kernel
theorem dX10_layNoises_11 : decode cX10_layNoises 11 = .ok (.istore_n 1, 1) := by decide +kernel
theorem dX10_layNoises_12 : decode cX10_layNoises 12 = .ok (.iload_n 1, 1) := by decide +kernel
theorem dX10_layNoises_13 : decode cX10_layNoises 13 = .ok (.aload_n 0, 1) := by decide +kernel
theorem dX10_layNoises_14 : decode cX10_layNoises 14 = .ok (.getfield 470, 3) := by decide +kernel
theorem dX10_layNoises_17 : decode cX10_layNoises 17 = .ok (.if_icmp .ge 87, 3) := by decide +kernel
theorem dX10_layNoises_20 : decode cX10_layNoises 20 = .ok (.aload_n 0, 1) := by decide +kernel
theorem dX10_layNoises_21 : decode cX10_layNoises 21 = .ok (.getfield 147, 3) := by decide +kernel
theorem dX10_layNoises_24 : decode cX10_layNoises 24 = .ok (.iload_n 1, 1) := by decide +kernel
theorem dX10_layNoises_25 : decode cX10_layNoises 25 = .ok (.aload_n 0, 1) := by decide +kernel
theorem dX10_layNoises_26 : decode cX10_layNoises 26 = .ok (.getfield 117, 3) := by decide +kernel
theorem dX10_layNoises_29 : decode cX10_layNoises 29 = .ok (.iload_n 1, 1) := by decide +kernel
theorem dX10_layNoises_30 : decode cX10_layNoises 30 = .ok (.iaload, 1) := by decide +kernel
theorem dX10_layNoises_31 : decode cX10_layNoises 31 = .ok (.iastore, 1) := by decide +kernel
theorem dX10_layNoises_32 : decode cX10_layNoises 32 = .ok (.aload_n 0, 1) := by decide +kernel
theorem dX10_layNoises_33 : decode cX10_layNoises 33 = .ok (.getfield 150, 3) := by decide +kernel
theorem dX10_layNoises_36 : decode cX10_layNoises 36 = .ok (.iload_n 1, 1) := by decide +kernel
theorem dX10_layNoises_37 : decode cX10_layNoises 37 = .ok (.aload_n 0, 1) := by decide +kernel
theorem dX10_layNoises_38 : decode cX10_layNoises 38 = .ok (.getfield 120, 3) := by decide +kernel
theorem dX10_layNoises_41 : decode cX10_layNoises 41 = .ok (.iload_n 1, 1) := by decide +kernel
theorem dX10_layNoises_42 : decode cX10_layNoises 42 = .ok (.iaload, 1) := by decide +kernel
theorem dX10_layNoises_43 : decode cX10_layNoises 43 = .ok (.iastore, 1) := by decide +kernel
theorem dX10_layNoises_44 : decode cX10_layNoises 44 = .ok (.aload_n 0, 1) := by decide +kernel
theorem dX10_layNoises_45 : decode cX10_layNoises 45 = .ok (.getfield 153, 3) := by decide +kernel
theorem dX10_layNoises_48 : decode cX10_layNoises 48 = .ok (.iload_n 1, 1) := by decide +kernel
theorem dX10_layNoises_49 : decode cX10_layNoises 49 = .ok (.aload_n 0, 1) := by decide +kernel
theorem dX10_layNoises_50 : decode cX10_layNoises 50 = .ok (.getfield 123, 3) := by decide +kernel
theorem dX10_layNoises_53 : decode cX10_layNoises 53 = .ok (.iload_n 1, 1) := by decide +kernel
theorem dX10_layNoises_54 : decode cX10_layNoises 54 = .ok (.iaload, 1) := by decide +kernel
theorem dX10_layNoises_55 : decode cX10_layNoises 55 = .ok (.iastore, 1) := by decide +kernel
theorem dX10_layNoises_56 : decode cX10_layNoises 56 = .ok (.aload_n 0, 1) := by decide +kernel
theorem dX10_layNoises_57 : decode cX10_layNoises 57 = .ok (.getfield 156, 3) := by decide +kernel
theorem dX10_layNoises_60 : decode cX10_layNoises 60 = .ok (.iload_n 1, 1) := by decide +kernel
theorem dX10_layNoises_61 : decode cX10_layNoises 61 = .ok (.aload_n 0, 1) := by decide +kernel
theorem dX10_layNoises_62 : decode cX10_layNoises 62 = .ok (.getfield 126, 3) := by decide +kernel
theorem dX10_layNoises_65 : decode cX10_layNoises 65 = .ok (.iload_n 1, 1) := by decide +kernel
theorem dX10_layNoises_66 : decode cX10_layNoises 66 = .ok (.iaload, 1) := by decide +kernel
theorem dX10_layNoises_67 : decode cX10_layNoises 67 = .ok (.iastore, 1) := by decide +kernel
theorem dX10_layNoises_68 : decode cX10_layNoises 68 = .ok (.aload_n 0, 1) := by decide +kernel
theorem dX10_layNoises_69 : decode cX10_layNoises 69 = .ok (.getfield 159, 3) := by decide +kernel
theorem dX10_layNoises_72 : decode cX10_layNoises 72 = .ok (.iload_n 1, 1) := by decide +kernel
theorem dX10_layNoises_73 : decode cX10_layNoises 73 = .ok (.aload_n 0, 1) := by decide +kernel
theorem dX10_layNoises_74 : decode cX10_layNoises 74 = .ok (.getfield 132, 3) := by decide +kernel
theorem dX10_layNoises_77 : decode cX10_layNoises 77 = .ok (.iconst 0, 1) := by decide +kernel
theorem dX10_layNoises_78 : decode cX10_layNoises 78 = .ok (.iaload, 1) := by decide +kernel
theorem dX10_layNoises_79 : decode cX10_layNoises 79 = .ok (.iload_n 1, 1) := by decide +kernel
theorem dX10_layNoises_80 : decode cX10_layNoises 80 = .ok (.ishr, 1) := by decide +kernel
theorem dX10_layNoises_81 : decode cX10_layNoises 81 = .ok (.iconst 1, 1) := by decide +kernel
theorem dX10_layNoises_82 : decode cX10_layNoises 82 = .ok (.iand, 1) := by decide +kernel
theorem dX10_layNoises_83 : decode cX10_layNoises 83 = .ok (.iconst 1, 1) := by decide +kernel
theorem dX10_layNoises_84 : decode cX10_layNoises 84 = .ok (.if_icmp .ne 7, 3) := by decide +kernel
theorem dX10_layNoises_87 : decode cX10_layNoises 87 = .ok (.iconst 0, 1) := by decide +kernel
theorem dX10_layNoises_88 : decode cX10_layNoises 88 = .ok (.goto 9, 3) := by decide +kernel
theorem dX10_layNoises_91 : decode cX10_layNoises 91 = .ok (.aload_n 0, 1) := by decide +kernel
theorem dX10_layNoises_92 : decode cX10_layNoises 92 = .ok (.getfield 129, 3) := by decide +kernel
theorem dX10_layNoises_95 : decode cX10_layNoises 95 = .ok (.iload_n 1, 1) := by decide +kernel
theorem dX10_layNoises_96 : decode cX10_layNoises 96 = .ok (.iaload, 1) := by decide +kernel
theorem dX10_layNoises_97 : decode cX10_layNoises 97 = .ok (.iastore, 1) := by decide +kernel
theorem dX10_layNoises_98 : decode cX10_layNoises 98 = .ok (.iinc 1 1, 3) := by decide +kernel
theorem dX10_layNoises_101 : decode cX10_layNoises 101 = .ok (.goto (-89), 3) := by decide +kernel
theorem dX10_layNoises_104 : decode cX10_layNoises 104 = .ok (.return_, 1) := by decide +kernel
theorem dX10_adds_0 : decode cX10_adds 0 = .ok (.aload_n 0, 1) := by decide +kernel
theorem dX10_adds_1 : decode cX10_adds 1 = .ok (.getfield 147, 3) := by decide +kernel
theorem dX10_adds_4 : decode cX10_adds 4 = .ok (.aload_n 0, 1) := by decide +kernel
theorem dX10_adds_5 : decode cX10_adds 5 = .ok (.getfield 470, 3) := by decide +kernel
theorem dX10_adds_8 : decode cX10_adds 8 = .ok (.iload_n 1, 1) := by decide +kernel
theorem dX10_adds_9 : decode cX10_adds 9 = .ok (.iastore, 1) := by decide +kernel
theorem dX10_adds_10 : decode cX10_adds 10 = .ok (.aload_n 0, 1) := by decide +kernel
theorem dX10_adds_11 : decode cX10_adds 11 = .ok (.getfield 150, 3) := by decide +kernel
theorem dX10_adds_14 : decode cX10_adds 14 = .ok (.aload_n 0, 1) := by decide +kernel
theorem dX10_adds_15 : decode cX10_adds 15 = .ok (.getfield 470, 3) := by decide +kernel
theorem dX10_adds_18 : decode cX10_adds 18 = .ok (.iload_n 2, 1) := by decide +kernel
theorem dX10_adds_19 : decode cX10_adds 19 = .ok (.iastore, 1) := by decide +kernel
theorem dX10_adds_20 : decode cX10_adds 20 = .ok (.aload_n 0, 1) := by decide +kernel
theorem dX10_adds_21 : decode cX10_adds 21 = .ok (.getfield 153, 3) := by decide +kernel
theorem dX10_adds_24 : decode cX10_adds 24 = .ok (.aload_n 0, 1) := by decide +kernel
theorem dX10_adds_25 : decode cX10_adds 25 = .ok (.getfield 470, 3) := by decide +kernel
theorem dX10_adds_28 : decode cX10_adds 28 = .ok (.iload_n 3, 1) := by decide +kernel
theorem dX10_adds_29 : decode cX10_adds 29 = .ok (.iastore, 1) := by decide +kernel
theorem dX10_adds_30 : decode cX10_adds 30 = .ok (.aload_n 0, 1) := by decide +kernel
theorem dX10_adds_31 : decode cX10_adds 31 = .ok (.getfield 156, 3) := by decide +kernel
theorem dX10_adds_34 : decode cX10_adds 34 = .ok (.aload_n 0, 1) := by decide +kernel
theorem dX10_adds_35 : decode cX10_adds 35 = .ok (.getfield 470, 3) := by decide +kernel
theorem dX10_adds_38 : decode cX10_adds 38 = .ok (.iload 4, 2) := by decide +kernel
theorem dX10_adds_40 : decode cX10_adds 40 = .ok (.iastore, 1) := by decide +kernel
theorem dX10_adds_41 : decode cX10_adds 41 = .ok (.aload_n 0, 1) := by decide +kernel
theorem dX10_adds_42 : decode cX10_adds 42 = .ok (.getfield 159, 3) := by decide +kernel
theorem dX10_adds_45 : decode cX10_adds 45 = .ok (.aload_n 0, 1) := by decide +kernel
theorem dX10_adds_46 : decode cX10_adds 46 = .ok (.getfield 470, 3) := by decide +kernel
theorem dX10_adds_49 : decode cX10_adds 49 = .ok (.iload 5, 2) := by decide +kernel
theorem dX10_adds_51 : decode cX10_adds 51 = .ok (.iastore, 1) := by decide +kernel
theorem dX10_adds_52 : decode cX10_adds 52 = .ok (.aload_n 0, 1) := by decide +kernel
theorem dX10_adds_53 : decode cX10_adds 53 = .ok (.dup, 1) := by decide +kernel
theorem dX10_adds_54 : decode cX10_adds 54 = .ok (.getfield 470, 3) := by decide +kernel
theorem dX10_adds_57 : decode cX10_adds 57 = .ok (.iconst 1, 1) := by decide +kernel
theorem dX10_adds_58 : decode cX10_adds 58 = .ok (.iadd, 1) := by decide +kernel
theorem dX10_adds_59 : decode cX10_adds 59 = .ok (.putfield 470, 3) := by decide +kernel
theorem dX10_adds_62 : decode cX10_adds 62 = .ok (.return_, 1) := by decide +kernel
theorem dX10_layFar_0 : decode cX10_layFar 0 = .ok (.iconst 0, 1) := by decide +kernel
theorem dX10_layFar_1 : decode cX10_layFar 1 = .ok (.istore_n 3, 1) := by decide +kernel
theorem dX10_layFar_2 : decode cX10_layFar 2 = .ok (.iload_n 3, 1) := by decide +kernel
theorem dX10_layFar_3 : decode cX10_layFar 3 = .ok (.bipush 36, 2) := by decide +kernel
theorem dX10_layFar_5 : decode cX10_layFar 5 = .ok (.if_icmp .ge 29, 3) := by decide +kernel
theorem dX10_layFar_8 : decode cX10_layFar 8 = .ok (.aload_n 0, 1) := by decide +kernel
theorem dX10_layFar_9 : decode cX10_layFar 9 = .ok (.getfield 162, 3) := by decide +kernel
theorem dX10_layFar_12 : decode cX10_layFar 12 = .ok (.iload_n 3, 1) := by decide +kernel
theorem dX10_layFar_13 : decode cX10_layFar 13 = .ok (.iload_n 3, 1) := by decide +kernel
theorem dX10_layFar_14 : decode cX10_layFar 14 = .ok (.bipush 7, 2) := by decide +kernel
theorem dX10_layFar_16 : decode cX10_layFar 16 = .ok (.irem, 1) := by decide +kernel
theorem dX10_layFar_17 : decode cX10_layFar 17 = .ok (.ifCond .ne 7, 3) := by decide +kernel
theorem dX10_layFar_20 : decode cX10_layFar 20 = .ok (.iconst 0, 1) := by decide +kernel
theorem dX10_layFar_21 : decode cX10_layFar 21 = .ok (.goto 6, 3) := by decide +kernel
theorem dX10_layFar_24 : decode cX10_layFar 24 = .ok (.ldc_w 473, 3) := by decide +kernel
theorem dX10_layFar_27 : decode cX10_layFar 27 = .ok (.iastore, 1) := by decide +kernel
theorem dX10_layFar_28 : decode cX10_layFar 28 = .ok (.iinc 3 1, 3) := by decide +kernel
theorem dX10_layFar_31 : decode cX10_layFar 31 = .ok (.goto (-29), 3) := by decide +kernel
theorem dX10_layFar_34 : decode cX10_layFar 34 = .ok (.iconst 0, 1) := by decide +kernel
theorem dX10_layFar_35 : decode cX10_layFar 35 = .ok (.istore_n 3, 1) := by decide +kernel
theorem dX10_layFar_36 : decode cX10_layFar 36 = .ok (.iload_n 3, 1) := by decide +kernel
theorem dX10_layFar_37 : decode cX10_layFar 37 = .ok (.aload_n 0, 1) := by decide +kernel
theorem dX10_layFar_38 : decode cX10_layFar 38 = .ok (.getfield 13, 3) := by decide +kernel
theorem dX10_layFar_41 : decode cX10_layFar 41 = .ok (.iconst 1, 1) := by decide +kernel
theorem dX10_layFar_42 : decode cX10_layFar 42 = .ok (.iaload, 1) := by decide +kernel
theorem dX10_layFar_43 : decode cX10_layFar 43 = .ok (.if_icmp .ge 120, 3) := by decide +kernel
theorem dX10_layFar_46 : decode cX10_layFar 46 = .ok (.iload_n 3, 1) := by decide +kernel
theorem dX10_layFar_47 : decode cX10_layFar 47 = .ok (.iload_n 2, 1) := by decide +kernel
theorem dX10_layFar_48 : decode cX10_layFar 48 = .ok (.if_icmp .ne 6, 3) := by decide +kernel
theorem dX10_layFar_51 : decode cX10_layFar 51 = .ok (.goto 106, 3) := by decide +kernel
theorem dX10_layFar_54 : decode cX10_layFar 54 = .ok (.aload_n 0, 1) := by decide +kernel
theorem dX10_layFar_55 : decode cX10_layFar 55 = .ok (.getfield 25, 3) := by decide +kernel
theorem dX10_layFar_58 : decode cX10_layFar 58 = .ok (.iload_n 3, 1) := by decide +kernel
theorem dX10_layFar_59 : decode cX10_layFar 59 = .ok (.iaload, 1) := by decide +kernel
theorem dX10_layFar_60 : decode cX10_layFar 60 = .ok (.iload_n 1, 1) := by decide +kernel
theorem dX10_layFar_61 : decode cX10_layFar 61 = .ok (.iload_n 3, 1) := by decide +kernel
theorem dX10_layFar_62 : decode cX10_layFar 62 = .ok (.ishr, 1) := by decide +kernel
theorem dX10_layFar_63 : decode cX10_layFar 63 = .ok (.iconst 1, 1) := by decide +kernel
theorem dX10_layFar_64 : decode cX10_layFar 64 = .ok (.iand, 1) := by decide +kernel
theorem dX10_layFar_65 : decode cX10_layFar 65 = .ok (.iconst 1, 1) := by decide +kernel
theorem dX10_layFar_66 : decode cX10_layFar 66 = .ok (.if_icmp .ne 13, 3) := by decide +kernel
theorem dX10_layFar_69 : decode cX10_layFar 69 = .ok (.aload_n 0, 1) := by decide +kernel
theorem dX10_layFar_70 : decode cX10_layFar 70 = .ok (.getfield 13, 3) := by decide +kernel
theorem dX10_layFar_73 : decode cX10_layFar 73 = .ok (.bipush 7, 2) := by decide +kernel
theorem dX10_layFar_75 : decode cX10_layFar 75 = .ok (.iaload, 1) := by decide +kernel
theorem dX10_layFar_76 : decode cX10_layFar 76 = .ok (.goto 4, 3) := by decide +kernel
theorem dX10_layFar_79 : decode cX10_layFar 79 = .ok (.iconst 0, 1) := by decide +kernel
theorem dX10_layFar_80 : decode cX10_layFar 80 = .ok (.iadd, 1) := by decide +kernel
theorem dX10_layFar_81 : decode cX10_layFar 81 = .ok (.istore 4, 2) := by decide +kernel
theorem dX10_layFar_83 : decode cX10_layFar 83 = .ok (.bipush 6, 2) := by decide +kernel
theorem dX10_layFar_85 : decode cX10_layFar 85 = .ok (.aload_n 0, 1) := by decide +kernel
theorem dX10_layFar_86 : decode cX10_layFar 86 = .ok (.getfield 19, 3) := by decide +kernel
theorem dX10_layFar_89 : decode cX10_layFar 89 = .ok (.iload_n 3, 1) := by decide +kernel
theorem dX10_layFar_90 : decode cX10_layFar 90 = .ok (.iaload, 1) := by decide +kernel
theorem dX10_layFar_91 : decode cX10_layFar 91 = .ok (.imul, 1) := by decide +kernel
theorem dX10_layFar_92 : decode cX10_layFar 92 = .ok (.aload_n 0, 1) := by decide +kernel
theorem dX10_layFar_93 : decode cX10_layFar 93 = .ok (.getfield 22, 3) := by decide +kernel
theorem dX10_layFar_96 : decode cX10_layFar 96 = .ok (.iload_n 3, 1) := by decide +kernel
theorem dX10_layFar_97 : decode cX10_layFar 97 = .ok (.iaload, 1) := by decide +kernel
theorem dX10_layFar_98 : decode cX10_layFar 98 = .ok (.iadd, 1) := by decide +kernel
theorem dX10_layFar_99 : decode cX10_layFar 99 = .ok (.istore 5, 2) := by decide +kernel
theorem dX10_layFar_101 : decode cX10_layFar 101 = .ok (.bipush 6, 2) := by decide +kernel
theorem dX10_layFar_103 : decode cX10_layFar 103 = .ok (.aload_n 0, 1) := by decide +kernel
theorem dX10_layFar_104 : decode cX10_layFar 104 = .ok (.getfield 22, 3) := by decide +kernel
theorem dX10_layFar_107 : decode cX10_layFar 107 = .ok (.iload_n 3, 1) := by decide +kernel
theorem dX10_layFar_108 : decode cX10_layFar 108 = .ok (.iaload, 1) := by decide +kernel
theorem dX10_layFar_109 : decode cX10_layFar 109 = .ok (.imul, 1) := by decide +kernel
theorem dX10_layFar_110 : decode cX10_layFar 110 = .ok (.aload_n 0, 1) := by decide +kernel
theorem dX10_layFar_111 : decode cX10_layFar 111 = .ok (.getfield 19, 3) := by decide +kernel
theorem dX10_layFar_114 : decode cX10_layFar 114 = .ok (.iload_n 3, 1) := by decide +kernel
theorem dX10_layFar_115 : decode cX10_layFar 115 = .ok (.iaload, 1) := by decide +kernel
theorem dX10_layFar_116 : decode cX10_layFar 116 = .ok (.iadd, 1) := by decide +kernel
theorem dX10_layFar_117 : decode cX10_layFar 117 = .ok (.istore 6, 2) := by decide +kernel
theorem dX10_layFar_119 : decode cX10_layFar 119 = .ok (.aload_n 0, 1) := by decide +kernel
theorem dX10_layFar_120 : decode cX10_layFar 120 = .ok (.getfield 162, 3) := by decide +kernel
theorem dX10_layFar_123 : decode cX10_layFar 123 = .ok (.iload 5, 2) := by decide +kernel
theorem dX10_layFar_125 : decode cX10_layFar 125 = .ok (.aload_n 0, 1) := by decide +kernel
theorem dX10_layFar_126 : decode cX10_layFar 126 = .ok (.getfield 162, 3) := by decide +kernel
theorem dX10_layFar_129 : decode cX10_layFar 129 = .ok (.iload 5, 2) := by decide +kernel
theorem dX10_layFar_131 : decode cX10_layFar 131 = .ok (.iaload, 1) := by decide +kernel
theorem dX10_layFar_132 : decode cX10_layFar 132 = .ok (.iload 4, 2) := by decide +kernel
theorem dX10_layFar_134 : decode cX10_layFar 134 = .ok (.invokestatic 474, 3) := by decide +kernel
theorem dX10_layFar_137 : decode cX10_layFar 137 = .ok (.iastore, 1) := by decide +kernel
theorem dX10_layFar_138 : decode cX10_layFar 138 = .ok (.aload_n 0, 1) := by decide +kernel
theorem dX10_layFar_139 : decode cX10_layFar 139 = .ok (.getfield 162, 3) := by decide +kernel
theorem dX10_layFar_142 : decode cX10_layFar 142 = .ok (.iload 6, 2) := by decide +kernel
theorem dX10_layFar_144 : decode cX10_layFar 144 = .ok (.aload_n 0, 1) := by decide +kernel
theorem dX10_layFar_145 : decode cX10_layFar 145 = .ok (.getfield 162, 3) := by decide +kernel
theorem dX10_layFar_148 : decode cX10_layFar 148 = .ok (.iload 6, 2) := by decide +kernel
theorem dX10_layFar_150 : decode cX10_layFar 150 = .ok (.iaload, 1) := by decide +kernel
theorem dX10_layFar_151 : decode cX10_layFar 151 = .ok (.iload 4, 2) := by decide +kernel
theorem dX10_layFar_153 : decode cX10_layFar 153 = .ok (.invokestatic 474, 3) := by decide +kernel
theorem dX10_layFar_156 : decode cX10_layFar 156 = .ok (.iastore, 1) := by decide +kernel
theorem dX10_layFar_157 : decode cX10_layFar 157 = .ok (.iinc 3 1, 3) := by decide +kernel
theorem dX10_layFar_160 : decode cX10_layFar 160 = .ok (.goto (-124), 3) := by decide +kernel
theorem dX10_layFar_163 : decode cX10_layFar 163 = .ok (.iconst 0, 1) := by decide +kernel
theorem dX10_layFar_164 : decode cX10_layFar 164 = .ok (.istore_n 3, 1) := by decide +kernel
theorem dX10_layFar_165 : decode cX10_layFar 165 = .ok (.iload_n 3, 1) := by decide +kernel
theorem dX10_layFar_166 : decode cX10_layFar 166 = .ok (.bipush 6, 2) := by decide +kernel
theorem dX10_layFar_168 : decode cX10_layFar 168 = .ok (.if_icmp .ge 95, 3) := by decide +kernel
theorem dX10_layFar_171 : decode cX10_layFar 171 = .ok (.iconst 0, 1) := by decide +kernel
theorem dX10_layFar_172 : decode cX10_layFar 172 = .ok (.istore 4, 2) := by decide +kernel
theorem dX10_layFar_174 : decode cX10_layFar 174 = .ok (.iload 4, 2) := by decide +kernel
theorem dX10_layFar_176 : decode cX10_layFar 176 = .ok (.bipush 6, 2) := by decide +kernel
theorem dX10_layFar_178 : decode cX10_layFar 178 = .ok (.if_icmp .ge 79, 3) := by decide +kernel
theorem dX10_layFar_181 : decode cX10_layFar 181 = .ok (.iconst 0, 1) := by decide +kernel
theorem dX10_layFar_182 : decode cX10_layFar 182 = .ok (.istore 5, 2) := by decide +kernel
theorem dX10_layFar_184 : decode cX10_layFar 184 = .ok (.iload 5, 2) := by decide +kernel
theorem dX10_layFar_186 : decode cX10_layFar 186 = .ok (.bipush 6, 2) := by decide +kernel
theorem dX10_layFar_188 : decode cX10_layFar 188 = .ok (.if_icmp .ge 63, 3) := by decide +kernel
theorem dX10_layFar_191 : decode cX10_layFar 191 = .ok (.aload_n 0, 1) := by decide +kernel
theorem dX10_layFar_192 : decode cX10_layFar 192 = .ok (.getfield 162, 3) := by decide +kernel
theorem dX10_layFar_195 : decode cX10_layFar 195 = .ok (.bipush 6, 2) := by decide +kernel
theorem dX10_layFar_197 : decode cX10_layFar 197 = .ok (.iload 4, 2) := by decide +kernel
theorem dX10_layFar_199 : decode cX10_layFar 199 = .ok (.imul, 1) := by decide +kernel
theorem dX10_layFar_200 : decode cX10_layFar 200 = .ok (.iload 5, 2) := by decide +kernel
theorem dX10_layFar_202 : decode cX10_layFar 202 = .ok (.iadd, 1) := by decide +kernel
theorem dX10_layFar_203 : decode cX10_layFar 203 = .ok (.aload_n 0, 1) := by decide +kernel
theorem dX10_layFar_204 : decode cX10_layFar 204 = .ok (.getfield 162, 3) := by decide +kernel
theorem dX10_layFar_207 : decode cX10_layFar 207 = .ok (.bipush 6, 2) := by decide +kernel
theorem dX10_layFar_209 : decode cX10_layFar 209 = .ok (.iload 4, 2) := by decide +kernel
theorem dX10_layFar_211 : decode cX10_layFar 211 = .ok (.imul, 1) := by decide +kernel
theorem dX10_layFar_212 : decode cX10_layFar 212 = .ok (.iload 5, 2) := by decide +kernel
theorem dX10_layFar_214 : decode cX10_layFar 214 = .ok (.iadd, 1) := by decide +kernel
theorem dX10_layFar_215 : decode cX10_layFar 215 = .ok (.iaload, 1) := by decide +kernel
theorem dX10_layFar_216 : decode cX10_layFar 216 = .ok (.aload_n 0, 1) := by decide +kernel
theorem dX10_layFar_217 : decode cX10_layFar 217 = .ok (.getfield 162, 3) := by decide +kernel
theorem dX10_layFar_220 : decode cX10_layFar 220 = .ok (.bipush 6, 2) := by decide +kernel
theorem dX10_layFar_222 : decode cX10_layFar 222 = .ok (.iload 4, 2) := by decide +kernel
theorem dX10_layFar_224 : decode cX10_layFar 224 = .ok (.imul, 1) := by decide +kernel
theorem dX10_layFar_225 : decode cX10_layFar 225 = .ok (.iload_n 3, 1) := by decide +kernel
theorem dX10_layFar_226 : decode cX10_layFar 226 = .ok (.iadd, 1) := by decide +kernel
theorem dX10_layFar_227 : decode cX10_layFar 227 = .ok (.iaload, 1) := by decide +kernel
theorem dX10_layFar_228 : decode cX10_layFar 228 = .ok (.aload_n 0, 1) := by decide +kernel
theorem dX10_layFar_229 : decode cX10_layFar 229 = .ok (.getfield 162, 3) := by decide +kernel
theorem dX10_layFar_232 : decode cX10_layFar 232 = .ok (.bipush 6, 2) := by decide +kernel
theorem dX10_layFar_234 : decode cX10_layFar 234 = .ok (.iload_n 3, 1) := by decide +kernel
theorem dX10_layFar_235 : decode cX10_layFar 235 = .ok (.imul, 1) := by decide +kernel
theorem dX10_layFar_236 : decode cX10_layFar 236 = .ok (.iload 5, 2) := by decide +kernel
theorem dX10_layFar_238 : decode cX10_layFar 238 = .ok (.iadd, 1) := by decide +kernel
theorem dX10_layFar_239 : decode cX10_layFar 239 = .ok (.iaload, 1) := by decide +kernel
theorem dX10_layFar_240 : decode cX10_layFar 240 = .ok (.iadd, 1) := by decide +kernel
theorem dX10_layFar_241 : decode cX10_layFar 241 = .ok (.invokestatic 474, 3) := by decide +kernel
theorem dX10_layFar_244 : decode cX10_layFar 244 = .ok (.iastore, 1) := by decide +kernel
theorem dX10_layFar_245 : decode cX10_layFar 245 = .ok (.iinc 5 1, 3) := by decide +kernel
theorem dX10_layFar_248 : decode cX10_layFar 248 = .ok (.goto (-64), 3) := by decide +kernel
theorem dX10_layFar_251 : decode cX10_layFar 251 = .ok (.iinc 4 1, 3) := by decide +kernel
theorem dX10_layFar_254 : decode cX10_layFar 254 = .ok (.goto (-80), 3) := by decide +kernel
theorem dX10_layFar_257 : decode cX10_layFar 257 = .ok (.iinc 3 1, 3) := by decide +kernel
theorem dX10_layFar_260 : decode cX10_layFar 260 = .ok (.goto (-95), 3) := by decide +kernel
theorem dX10_layFar_263 : decode cX10_layFar 263 = .ok (.return_, 1) := by decide +kernel
theorem dX10_carries_0 : decode cX10_carries 0 = .ok (.aload_n 0, 1) := by decide +kernel
theorem dX10_carries_1 : decode cX10_carries 1 = .ok (.getfield 162, 3) := by decide +kernel
theorem dX10_carries_4 : decode cX10_carries 4 = .ok (.bipush 6, 2) := by decide +kernel
theorem dX10_carries_6 : decode cX10_carries 6 = .ok (.iload_n 1, 1) := by decide +kernel
theorem dX10_carries_7 : decode cX10_carries 7 = .ok (.imul, 1) := by decide +kernel
theorem dX10_carries_8 : decode cX10_carries 8 = .ok (.iload_n 3, 1) := by decide +kernel
theorem dX10_carries_9 : decode cX10_carries 9 = .ok (.iadd, 1) := by decide +kernel
theorem dX10_carries_10 : decode cX10_carries 10 = .ok (.iaload, 1) := by decide +kernel
theorem dX10_carries_11 : decode cX10_carries 11 = .ok (.istore 5, 2) := by decide +kernel
theorem dX10_carries_13 : decode cX10_carries 13 = .ok (.iload 5, 2) := by decide +kernel
theorem dX10_carries_15 : decode cX10_carries 15 = .ok (.ldc_w 473, 3) := by decide +kernel
theorem dX10_carries_18 : decode cX10_carries 18 = .ok (.if_icmp .ge 8, 3) := by decide +kernel
theorem dX10_carries_21 : decode cX10_carries 21 = .ok (.iload_n 2, 1) := by decide +kernel
theorem dX10_carries_22 : decode cX10_carries 22 = .ok (.iconst 1, 1) := by decide +kernel
theorem dX10_carries_23 : decode cX10_carries 23 = .ok (.if_icmp .ge 5, 3) := by decide +kernel
theorem dX10_carries_26 : decode cX10_carries 26 = .ok (.iconst 0, 1) := by decide +kernel
theorem dX10_carries_27 : decode cX10_carries 27 = .ok (.ireturn, 1) := by decide +kernel
theorem dX10_carries_28 : decode cX10_carries 28 = .ok (.aload_n 0, 1) := by decide +kernel
theorem dX10_carries_29 : decode cX10_carries 29 = .ok (.iload_n 2, 1) := by decide +kernel
theorem dX10_carries_30 : decode cX10_carries 30 = .ok (.iload 5, 2) := by decide +kernel
theorem dX10_carries_32 : decode cX10_carries 32 = .ok (.iload 4, 2) := by decide +kernel
theorem dX10_carries_34 : decode cX10_carries 34 = .ok (.invokevirtual 462, 3) := by decide +kernel
theorem dX10_carries_37 : decode cX10_carries 37 = .ok (.aload_n 0, 1) := by decide +kernel
theorem dX10_carries_38 : decode cX10_carries 38 = .ok (.iconst 0, 1) := by decide +kernel
theorem dX10_carries_39 : decode cX10_carries 39 = .ok (.invokevirtual 440, 3) := by decide +kernel
theorem dX10_carries_42 : decode cX10_carries 42 = .ok (.ifCond .eq 30, 3) := by decide +kernel
theorem dX10_carries_45 : decode cX10_carries 45 = .ok (.aload_n 0, 1) := by decide +kernel
theorem dX10_carries_46 : decode cX10_carries 46 = .ok (.iconst 0, 1) := by decide +kernel
theorem dX10_carries_47 : decode cX10_carries 47 = .ok (.invokevirtual 443, 3) := by decide +kernel
theorem dX10_carries_50 : decode cX10_carries 50 = .ok (.ifCond .eq 22, 3) := by decide +kernel
theorem dX10_carries_53 : decode cX10_carries 53 = .ok (.aload_n 0, 1) := by decide +kernel
theorem dX10_carries_54 : decode cX10_carries 54 = .ok (.getfield 111, 3) := by decide +kernel
theorem dX10_carries_57 : decode cX10_carries 57 = .ok (.iconst 0, 1) := by decide +kernel
theorem dX10_carries_58 : decode cX10_carries 58 = .ok (.laload, 1) := by decide +kernel
theorem dX10_carries_59 : decode cX10_carries 59 = .ok (.lconst 1, 1) := by decide +kernel
theorem dX10_carries_60 : decode cX10_carries 60 = .ok (.lcmp, 1) := by decide +kernel
theorem dX10_carries_61 : decode cX10_carries 61 = .ok (.ifCond .lt 7, 3) := by decide +kernel
theorem dX10_carries_64 : decode cX10_carries 64 = .ok (.iconst 1, 1) := by decide +kernel
theorem dX10_carries_65 : decode cX10_carries 65 = .ok (.goto 20, 3) := by decide +kernel
theorem dX10_carries_68 : decode cX10_carries 68 = .ok (.iconst 0, 1) := by decide +kernel
theorem dX10_carries_69 : decode cX10_carries 69 = .ok (.goto 16, 3) := by decide +kernel
theorem dX10_carries_72 : decode cX10_carries 72 = .ok (.iload_n 2, 1) := by decide +kernel
theorem dX10_carries_73 : decode cX10_carries 73 = .ok (.iload 5, 2) := by decide +kernel
theorem dX10_carries_75 : decode cX10_carries 75 = .ok (.isub, 1) := by decide +kernel
theorem dX10_carries_76 : decode cX10_carries 76 = .ok (.iconst 1, 1) := by decide +kernel
theorem dX10_carries_77 : decode cX10_carries 77 = .ok (.if_icmp .lt 7, 3) := by decide +kernel
theorem dX10_carries_80 : decode cX10_carries 80 = .ok (.iconst 1, 1) := by decide +kernel
theorem dX10_carries_81 : decode cX10_carries 81 = .ok (.goto 4, 3) := by decide +kernel
theorem dX10_carries_84 : decode cX10_carries 84 = .ok (.iconst 0, 1) := by decide +kernel
theorem dX10_carries_85 : decode cX10_carries 85 = .ok (.ireturn, 1) := by decide +kernel
theorem dX10_hears_0 : decode cX10_hears 0 = .ok (.iload_n 3, 1) := by decide +kernel
theorem dX10_hears_1 : decode cX10_hears 1 = .ok (.aload_n 0, 1) := by decide +kernel
theorem dX10_hears_2 : decode cX10_hears 2 = .ok (.getfield 153, 3) := by decide +kernel
theorem dX10_hears_5 : decode cX10_hears 5 = .ok (.iload_n 1, 1) := by decide +kernel
theorem dX10_hears_6 : decode cX10_hears 6 = .ok (.iaload, 1) := by decide +kernel
theorem dX10_hears_7 : decode cX10_hears 7 = .ok (.if_icmp .lt 38, 3) := by decide +kernel
theorem dX10_hears_10 : decode cX10_hears 10 = .ok (.iload_n 3, 1) := by decide +kernel
theorem dX10_hears_11 : decode cX10_hears 11 = .ok (.aload_n 0, 1) := by decide +kernel
theorem dX10_hears_12 : decode cX10_hears 12 = .ok (.getfield 156, 3) := by decide +kernel
theorem dX10_hears_15 : decode cX10_hears 15 = .ok (.iload_n 1, 1) := by decide +kernel
theorem dX10_hears_16 : decode cX10_hears 16 = .ok (.iaload, 1) := by decide +kernel
theorem dX10_hears_17 : decode cX10_hears 17 = .ok (.if_icmp .gt 28, 3) := by decide +kernel
theorem dX10_hears_20 : decode cX10_hears 20 = .ok (.aload_n 0, 1) := by decide +kernel
theorem dX10_hears_21 : decode cX10_hears 21 = .ok (.aload_n 0, 1) := by decide +kernel
theorem dX10_hears_22 : decode cX10_hears 22 = .ok (.getfield 147, 3) := by decide +kernel
theorem dX10_hears_25 : decode cX10_hears 25 = .ok (.iload_n 1, 1) := by decide +kernel
theorem dX10_hears_26 : decode cX10_hears 26 = .ok (.iaload, 1) := by decide +kernel
theorem dX10_hears_27 : decode cX10_hears 27 = .ok (.aload_n 0, 1) := by decide +kernel
theorem dX10_hears_28 : decode cX10_hears 28 = .ok (.getfield 159, 3) := by decide +kernel
theorem dX10_hears_31 : decode cX10_hears 31 = .ok (.iload_n 1, 1) := by decide +kernel
theorem dX10_hears_32 : decode cX10_hears 32 = .ok (.iaload, 1) := by decide +kernel
theorem dX10_hears_33 : decode cX10_hears 33 = .ok (.iload_n 2, 1) := by decide +kernel
theorem dX10_hears_34 : decode cX10_hears 34 = .ok (.iload_n 3, 1) := by decide +kernel
theorem dX10_hears_35 : decode cX10_hears 35 = .ok (.invokevirtual 476, 3) := by decide +kernel
theorem dX10_hears_38 : decode cX10_hears 38 = .ok (.ifCond .eq 7, 3) := by decide +kernel
theorem dX10_hears_41 : decode cX10_hears 41 = .ok (.iconst 1, 1) := by decide +kernel
theorem dX10_hears_42 : decode cX10_hears 42 = .ok (.goto 4, 3) := by decide +kernel
theorem dX10_hears_45 : decode cX10_hears 45 = .ok (.iconst 0, 1) := by decide +kernel
theorem dX10_hears_46 : decode cX10_hears 46 = .ok (.ireturn, 1) := by decide +kernel
theorem dX10_layFirst_0 : decode cX10_layFirst 0 = .ok (.iconst 0, 1) := by decide +kernel
theorem dX10_layFirst_1 : decode cX10_layFirst 1 = .ok (.istore_n 1, 1) := by decide +kernel
theorem dX10_layFirst_2 : decode cX10_layFirst 2 = .ok (.iload_n 1, 1) := by decide +kernel
theorem dX10_layFirst_3 : decode cX10_layFirst 3 = .ok (.aload_n 0, 1) := by decide +kernel
theorem dX10_layFirst_4 : decode cX10_layFirst 4 = .ok (.getfield 13, 3) := by decide +kernel
theorem dX10_layFirst_7 : decode cX10_layFirst 7 = .ok (.iconst 0, 1) := by decide +kernel
theorem dX10_layFirst_8 : decode cX10_layFirst 8 = .ok (.iaload, 1) := by decide +kernel
theorem dX10_layFirst_9 : decode cX10_layFirst 9 = .ok (.if_icmp .ge 73, 3) := by decide +kernel
theorem dX10_layFirst_12 : decode cX10_layFirst 12 = .ok (.iconst 0, 1) := by decide +kernel
theorem dX10_layFirst_13 : decode cX10_layFirst 13 = .ok (.istore_n 2, 1) := by decide +kernel
theorem dX10_layFirst_14 : decode cX10_layFirst 14 = .ok (.iload_n 2, 1) := by decide +kernel
theorem dX10_layFirst_15 : decode cX10_layFirst 15 = .ok (.bipush 48, 2) := by decide +kernel
theorem dX10_layFirst_17 : decode cX10_layFirst 17 = .ok (.if_icmp .ge 59, 3) := by decide +kernel
theorem dX10_layFirst_20 : decode cX10_layFirst 20 = .ok (.iconst 0, 1) := by decide +kernel
theorem dX10_layFirst_21 : decode cX10_layFirst 21 = .ok (.istore_n 3, 1) := by decide +kernel
theorem dX10_layFirst_22 : decode cX10_layFirst 22 = .ok (.iload_n 3, 1) := by decide +kernel
theorem dX10_layFirst_23 : decode cX10_layFirst 23 = .ok (.aload_n 0, 1) := by decide +kernel
theorem dX10_layFirst_24 : decode cX10_layFirst 24 = .ok (.getfield 470, 3) := by decide +kernel
theorem dX10_layFirst_27 : decode cX10_layFirst 27 = .ok (.if_icmp .ge 19, 3) := by decide +kernel
theorem dX10_layFirst_30 : decode cX10_layFirst 30 = .ok (.aload_n 0, 1) := by decide +kernel
theorem dX10_layFirst_31 : decode cX10_layFirst 31 = .ok (.iload_n 3, 1) := by decide +kernel
theorem dX10_layFirst_32 : decode cX10_layFirst 32 = .ok (.iload_n 1, 1) := by decide +kernel
theorem dX10_layFirst_33 : decode cX10_layFirst 33 = .ok (.iload_n 2, 1) := by decide +kernel
theorem dX10_layFirst_34 : decode cX10_layFirst 34 = .ok (.invokevirtual 480, 3) := by decide +kernel
theorem dX10_layFirst_37 : decode cX10_layFirst 37 = .ok (.ifCond .ne 9, 3) := by decide +kernel
theorem dX10_layFirst_40 : decode cX10_layFirst 40 = .ok (.iinc 3 1, 3) := by decide +kernel
theorem dX10_layFirst_43 : decode cX10_layFirst 43 = .ok (.goto (-21), 3) := by decide +kernel
theorem dX10_layFirst_46 : decode cX10_layFirst 46 = .ok (.aload_n 0, 1) := by decide +kernel
theorem dX10_layFirst_47 : decode cX10_layFirst 47 = .ok (.getfield 165, 3) := by decide +kernel
theorem dX10_layFirst_50 : decode cX10_layFirst 50 = .ok (.bipush 48, 2) := by decide +kernel
theorem dX10_layFirst_52 : decode cX10_layFirst 52 = .ok (.iload_n 1, 1) := by decide +kernel
theorem dX10_layFirst_53 : decode cX10_layFirst 53 = .ok (.imul, 1) := by decide +kernel
theorem dX10_layFirst_54 : decode cX10_layFirst 54 = .ok (.iload_n 2, 1) := by decide +kernel
theorem dX10_layFirst_55 : decode cX10_layFirst 55 = .ok (.iadd, 1) := by decide +kernel
theorem dX10_layFirst_56 : decode cX10_layFirst 56 = .ok (.iload_n 3, 1) := by decide +kernel
theorem dX10_layFirst_57 : decode cX10_layFirst 57 = .ok (.aload_n 0, 1) := by decide +kernel
theorem dX10_layFirst_58 : decode cX10_layFirst 58 = .ok (.getfield 470, 3) := by decide +kernel
theorem dX10_layFirst_61 : decode cX10_layFirst 61 = .ok (.if_icmp .ge 7, 3) := by decide +kernel
theorem dX10_layFirst_64 : decode cX10_layFirst 64 = .ok (.iload_n 3, 1) := by decide +kernel
theorem dX10_layFirst_65 : decode cX10_layFirst 65 = .ok (.goto 4, 3) := by decide +kernel
theorem dX10_layFirst_68 : decode cX10_layFirst 68 = .ok (.iconst (-1), 1) := by decide +kernel
theorem dX10_layFirst_69 : decode cX10_layFirst 69 = .ok (.iastore, 1) := by decide +kernel
theorem dX10_layFirst_70 : decode cX10_layFirst 70 = .ok (.iinc 2 1, 3) := by decide +kernel
theorem dX10_layFirst_73 : decode cX10_layFirst 73 = .ok (.goto (-59), 3) := by decide +kernel
theorem dX10_layFirst_76 : decode cX10_layFirst 76 = .ok (.iinc 1 1, 3) := by decide +kernel
theorem dX10_layFirst_79 : decode cX10_layFirst 79 = .ok (.goto (-77), 3) := by decide +kernel
theorem dX10_layFirst_82 : decode cX10_layFirst 82 = .ok (.return_, 1) := by decide +kernel
theorem dX10_silentAll_0 : decode cX10_silentAll 0 = .ok (.aload_n 0, 1) := by decide +kernel
theorem dX10_silentAll_1 : decode cX10_silentAll 1 = .ok (.invokevirtual 484, 3) := by decide +kernel
theorem dX10_silentAll_4 : decode cX10_silentAll 4 = .ok (.iconst 0, 1) := by decide +kernel
theorem dX10_silentAll_5 : decode cX10_silentAll 5 = .ok (.istore_n 1, 1) := by decide +kernel
theorem dX10_silentAll_6 : decode cX10_silentAll 6 = .ok (.iconst 0, 1) := by decide +kernel
theorem dX10_silentAll_7 : decode cX10_silentAll 7 = .ok (.istore_n 2, 1) := by decide +kernel
theorem dX10_silentAll_8 : decode cX10_silentAll 8 = .ok (.iload_n 2, 1) := by decide +kernel
theorem dX10_silentAll_9 : decode cX10_silentAll 9 = .ok (.bipush 48, 2) := by decide +kernel
theorem dX10_silentAll_11 : decode cX10_silentAll 11 = .ok (.aload_n 0, 1) := by decide +kernel
theorem dX10_silentAll_12 : decode cX10_silentAll 12 = .ok (.getfield 13, 3) := by decide +kernel
theorem dX10_silentAll_15 : decode cX10_silentAll 15 = .ok (.iconst 0, 1) := by decide +kernel
theorem dX10_silentAll_16 : decode cX10_silentAll 16 = .ok (.iaload, 1) := by decide +kernel
theorem dX10_silentAll_17 : decode cX10_silentAll 17 = .ok (.imul, 1) := by decide +kernel
theorem dX10_silentAll_18 : decode cX10_silentAll 18 = .ok (.if_icmp .ge 27, 3) := by decide +kernel
theorem dX10_silentAll_21 : decode cX10_silentAll 21 = .ok (.iload_n 1, 1) := by decide +kernel
theorem dX10_silentAll_22 : decode cX10_silentAll 22 = .ok (.aload_n 0, 1) := by decide +kernel
theorem dX10_silentAll_23 : decode cX10_silentAll 23 = .ok (.getfield 165, 3) := by decide +kernel
theorem dX10_silentAll_26 : decode cX10_silentAll 26 = .ok (.iload_n 2, 1) := by decide +kernel
theorem dX10_silentAll_27 : decode cX10_silentAll 27 = .ok (.iaload, 1) := by decide +kernel
theorem dX10_silentAll_28 : decode cX10_silentAll 28 = .ok (.iconst (-1), 1) := by decide +kernel
theorem dX10_silentAll_29 : decode cX10_silentAll 29 = .ok (.if_icmp .ne 7, 3) := by decide +kernel
theorem dX10_silentAll_32 : decode cX10_silentAll 32 = .ok (.iconst 1, 1) := by decide +kernel
theorem dX10_silentAll_33 : decode cX10_silentAll 33 = .ok (.goto 4, 3) := by decide +kernel
theorem dX10_silentAll_36 : decode cX10_silentAll 36 = .ok (.iconst 0, 1) := by decide +kernel
theorem dX10_silentAll_37 : decode cX10_silentAll 37 = .ok (.iadd, 1) := by decide +kernel
theorem dX10_silentAll_38 : decode cX10_silentAll 38 = .ok (.istore_n 1, 1) := by decide +kernel
theorem dX10_silentAll_39 : decode cX10_silentAll 39 = .ok (.iinc 2 1, 3) := by decide +kernel
theorem dX10_silentAll_42 : decode cX10_silentAll 42 = .ok (.goto (-34), 3) := by decide +kernel
theorem dX10_silentAll_45 : decode cX10_silentAll 45 = .ok (.iload_n 1, 1) := by decide +kernel
theorem dX10_silentAll_46 : decode cX10_silentAll 46 = .ok (.ireturn, 1) := by decide +kernel
theorem dX10_layClaims_0 : decode cX10_layClaims 0 = .ok (.aload_n 0, 1) := by decide +kernel
theorem dX10_layClaims_1 : decode cX10_layClaims 1 = .ok (.aload_n 0, 1) := by decide +kernel
theorem dX10_layClaims_2 : decode cX10_layClaims 2 = .ok (.getfield 13, 3) := by decide +kernel
theorem dX10_layClaims_5 : decode cX10_layClaims 5 = .ok (.iconst 4, 1) := by decide +kernel
theorem dX10_layClaims_6 : decode cX10_layClaims 6 = .ok (.iaload, 1) := by decide +kernel
theorem dX10_layClaims_7 : decode cX10_layClaims 7 = .ok (.putfield 487, 3) := by decide +kernel
theorem dX10_layClaims_10 : decode cX10_layClaims 10 = .ok (.iconst 0, 1) := by decide +kernel
theorem dX10_layClaims_11 : decode cX10_layClaims 11 = .ok (.istore_n 1, 1) := by decide +kernel
theorem dX10_layClaims_12 : decode cX10_layClaims 12 = .ok (.iload_n 1, 1) := by decide +kernel
theorem dX10_layClaims_13 : decode cX10_layClaims 13 = .ok (.aload_n 0, 1) := by decide +kernel
theorem dX10_layClaims_14 : decode cX10_layClaims 14 = .ok (.getfield 487, 3) := by decide +kernel
theorem dX10_layClaims_17 : decode cX10_layClaims 17 = .ok (.if_icmp .ge 57, 3) := by decide +kernel
theorem dX10_layClaims_20 : decode cX10_layClaims 20 = .ok (.aload_n 0, 1) := by decide +kernel
theorem dX10_layClaims_21 : decode cX10_layClaims 21 = .ok (.getfield 168, 3) := by decide +kernel
theorem dX10_layClaims_24 : decode cX10_layClaims 24 = .ok (.iload_n 1, 1) := by decide +kernel
theorem dX10_layClaims_25 : decode cX10_layClaims 25 = .ok (.aload_n 0, 1) := by decide +kernel
theorem dX10_layClaims_26 : decode cX10_layClaims 26 = .ok (.getfield 135, 3) := by decide +kernel
theorem dX10_layClaims_29 : decode cX10_layClaims 29 = .ok (.iload_n 1, 1) := by decide +kernel
theorem dX10_layClaims_30 : decode cX10_layClaims 30 = .ok (.iaload, 1) := by decide +kernel
theorem dX10_layClaims_31 : decode cX10_layClaims 31 = .ok (.iastore, 1) := by decide +kernel
theorem dX10_layClaims_32 : decode cX10_layClaims 32 = .ok (.aload_n 0, 1) := by decide +kernel
theorem dX10_layClaims_33 : decode cX10_layClaims 33 = .ok (.getfield 171, 3) := by decide +kernel
theorem dX10_layClaims_36 : decode cX10_layClaims 36 = .ok (.iload_n 1, 1) := by decide +kernel
theorem dX10_layClaims_37 : decode cX10_layClaims 37 = .ok (.aload_n 0, 1) := by decide +kernel
theorem dX10_layClaims_38 : decode cX10_layClaims 38 = .ok (.getfield 55, 3) := by decide +kernel
theorem dX10_layClaims_41 : decode cX10_layClaims 41 = .ok (.iload_n 1, 1) := by decide +kernel
theorem dX10_layClaims_42 : decode cX10_layClaims 42 = .ok (.iaload, 1) := by decide +kernel
theorem dX10_layClaims_43 : decode cX10_layClaims 43 = .ok (.iastore, 1) := by decide +kernel
theorem dX10_layClaims_44 : decode cX10_layClaims 44 = .ok (.aload_n 0, 1) := by decide +kernel
theorem dX10_layClaims_45 : decode cX10_layClaims 45 = .ok (.getfield 174, 3) := by decide +kernel
theorem dX10_layClaims_48 : decode cX10_layClaims 48 = .ok (.iload_n 1, 1) := by decide +kernel
theorem dX10_layClaims_49 : decode cX10_layClaims 49 = .ok (.aload_n 0, 1) := by decide +kernel
theorem dX10_layClaims_50 : decode cX10_layClaims 50 = .ok (.getfield 58, 3) := by decide +kernel
theorem dX10_layClaims_53 : decode cX10_layClaims 53 = .ok (.iload_n 1, 1) := by decide +kernel
theorem dX10_layClaims_54 : decode cX10_layClaims 54 = .ok (.iaload, 1) := by decide +kernel
theorem dX10_layClaims_55 : decode cX10_layClaims 55 = .ok (.iastore, 1) := by decide +kernel
theorem dX10_layClaims_56 : decode cX10_layClaims 56 = .ok (.aload_n 0, 1) := by decide +kernel
theorem dX10_layClaims_57 : decode cX10_layClaims 57 = .ok (.getfield 177, 3) := by decide +kernel
theorem dX10_layClaims_60 : decode cX10_layClaims 60 = .ok (.iload_n 1, 1) := by decide +kernel
theorem dX10_layClaims_61 : decode cX10_layClaims 61 = .ok (.aload_n 0, 1) := by decide +kernel
theorem dX10_layClaims_62 : decode cX10_layClaims 62 = .ok (.getfield 61, 3) := by decide +kernel
theorem dX10_layClaims_65 : decode cX10_layClaims 65 = .ok (.iload_n 1, 1) := by decide +kernel
theorem dX10_layClaims_66 : decode cX10_layClaims 66 = .ok (.iaload, 1) := by decide +kernel
theorem dX10_layClaims_67 : decode cX10_layClaims 67 = .ok (.iastore, 1) := by decide +kernel
theorem dX10_layClaims_68 : decode cX10_layClaims 68 = .ok (.iinc 1 1, 3) := by decide +kernel
theorem dX10_layClaims_71 : decode cX10_layClaims 71 = .ok (.goto (-59), 3) := by decide +kernel
theorem dX10_layClaims_74 : decode cX10_layClaims 74 = .ok (.return_, 1) := by decide +kernel
theorem dX10_claimed_0 : decode cX10_claimed 0 = .ok (.iconst 0, 1) := by decide +kernel
theorem dX10_claimed_1 : decode cX10_claimed 1 = .ok (.istore_n 3, 1) := by decide +kernel
theorem dX10_claimed_2 : decode cX10_claimed 2 = .ok (.iload_n 3, 1) := by decide +kernel
theorem dX10_claimed_3 : decode cX10_claimed 3 = .ok (.aload_n 0, 1) := by decide +kernel
theorem dX10_claimed_4 : decode cX10_claimed 4 = .ok (.getfield 487, 3) := by decide +kernel
theorem dX10_claimed_7 : decode cX10_claimed 7 = .ok (.if_icmp .ge 46, 3) := by decide +kernel
theorem dX10_claimed_10 : decode cX10_claimed 10 = .ok (.aload_n 0, 1) := by decide +kernel
theorem dX10_claimed_11 : decode cX10_claimed 11 = .ok (.getfield 171, 3) := by decide +kernel
theorem dX10_claimed_14 : decode cX10_claimed 14 = .ok (.iload_n 3, 1) := by decide +kernel
theorem dX10_claimed_15 : decode cX10_claimed 15 = .ok (.iaload, 1) := by decide +kernel
theorem dX10_claimed_16 : decode cX10_claimed 16 = .ok (.iload_n 1, 1) := by decide +kernel
theorem dX10_claimed_17 : decode cX10_claimed 17 = .ok (.if_icmp .ne 30, 3) := by decide +kernel
theorem dX10_claimed_20 : decode cX10_claimed 20 = .ok (.iload_n 2, 1) := by decide +kernel
theorem dX10_claimed_21 : decode cX10_claimed 21 = .ok (.aload_n 0, 1) := by decide +kernel
theorem dX10_claimed_22 : decode cX10_claimed 22 = .ok (.getfield 174, 3) := by decide +kernel
theorem dX10_claimed_25 : decode cX10_claimed 25 = .ok (.iload_n 3, 1) := by decide +kernel
theorem dX10_claimed_26 : decode cX10_claimed 26 = .ok (.iaload, 1) := by decide +kernel
theorem dX10_claimed_27 : decode cX10_claimed 27 = .ok (.if_icmp .lt 20, 3) := by decide +kernel
theorem dX10_claimed_30 : decode cX10_claimed 30 = .ok (.iload_n 2, 1) := by decide +kernel
theorem dX10_claimed_31 : decode cX10_claimed 31 = .ok (.aload_n 0, 1) := by decide +kernel
theorem dX10_claimed_32 : decode cX10_claimed 32 = .ok (.getfield 177, 3) := by decide +kernel
theorem dX10_claimed_35 : decode cX10_claimed 35 = .ok (.iload_n 3, 1) := by decide +kernel
theorem dX10_claimed_36 : decode cX10_claimed 36 = .ok (.iaload, 1) := by decide +kernel
theorem dX10_claimed_37 : decode cX10_claimed 37 = .ok (.if_icmp .gt 10, 3) := by decide +kernel
theorem dX10_claimed_40 : decode cX10_claimed 40 = .ok (.aload_n 0, 1) := by decide +kernel
theorem dX10_claimed_41 : decode cX10_claimed 41 = .ok (.getfield 168, 3) := by decide +kernel
theorem dX10_claimed_44 : decode cX10_claimed 44 = .ok (.iload_n 3, 1) := by decide +kernel
theorem dX10_claimed_45 : decode cX10_claimed 45 = .ok (.iaload, 1) := by decide +kernel
theorem dX10_claimed_46 : decode cX10_claimed 46 = .ok (.ireturn, 1) := by decide +kernel
theorem dX10_claimed_47 : decode cX10_claimed 47 = .ok (.iinc 3 1, 3) := by decide +kernel
theorem dX10_claimed_50 : decode cX10_claimed 50 = .ok (.goto (-48), 3) := by decide +kernel
theorem dX10_claimed_53 : decode cX10_claimed 53 = .ok (.iconst (-1), 1) := by decide +kernel
theorem dX10_claimed_54 : decode cX10_claimed 54 = .ok (.ireturn, 1) := by decide +kernel
theorem dX10_layWhose_0 : decode cX10_layWhose 0 = .ok (.iconst 0, 1) := by decide +kernel
theorem dX10_layWhose_1 : decode cX10_layWhose 1 = .ok (.istore_n 1, 1) := by decide +kernel
theorem dX10_layWhose_2 : decode cX10_layWhose 2 = .ok (.iload_n 1, 1) := by decide +kernel
theorem dX10_layWhose_3 : decode cX10_layWhose 3 = .ok (.aload_n 0, 1) := by decide +kernel
theorem dX10_layWhose_4 : decode cX10_layWhose 4 = .ok (.getfield 13, 3) := by decide +kernel
theorem dX10_layWhose_7 : decode cX10_layWhose 7 = .ok (.iconst 0, 1) := by decide +kernel
theorem dX10_layWhose_8 : decode cX10_layWhose 8 = .ok (.iaload, 1) := by decide +kernel
theorem dX10_layWhose_9 : decode cX10_layWhose 9 = .ok (.if_icmp .ge 97, 3) := by decide +kernel
theorem dX10_layWhose_12 : decode cX10_layWhose 12 = .ok (.bipush (-2), 2) := by decide +kernel
theorem dX10_layWhose_14 : decode cX10_layWhose 14 = .ok (.istore_n 2, 1) := by decide +kernel
theorem dX10_layWhose_15 : decode cX10_layWhose 15 = .ok (.iconst 0, 1) := by decide +kernel
theorem dX10_layWhose_16 : decode cX10_layWhose 16 = .ok (.istore_n 3, 1) := by decide +kernel
theorem dX10_layWhose_17 : decode cX10_layWhose 17 = .ok (.iload_n 3, 1) := by decide +kernel
theorem dX10_layWhose_18 : decode cX10_layWhose 18 = .ok (.bipush 48, 2) := by decide +kernel
theorem dX10_layWhose_20 : decode cX10_layWhose 20 = .ok (.if_icmp .ge 80, 3) := by decide +kernel
theorem dX10_layWhose_23 : decode cX10_layWhose 23 = .ok (.bipush 48, 2) := by decide +kernel
theorem dX10_layWhose_25 : decode cX10_layWhose 25 = .ok (.iload_n 1, 1) := by decide +kernel
theorem dX10_layWhose_26 : decode cX10_layWhose 26 = .ok (.imul, 1) := by decide +kernel
theorem dX10_layWhose_27 : decode cX10_layWhose 27 = .ok (.iload_n 3, 1) := by decide +kernel
theorem dX10_layWhose_28 : decode cX10_layWhose 28 = .ok (.iadd, 1) := by decide +kernel
theorem dX10_layWhose_29 : decode cX10_layWhose 29 = .ok (.istore 4, 2) := by decide +kernel
theorem dX10_layWhose_31 : decode cX10_layWhose 31 = .ok (.aload_n 0, 1) := by decide +kernel
theorem dX10_layWhose_32 : decode cX10_layWhose 32 = .ok (.getfield 165, 3) := by decide +kernel
theorem dX10_layWhose_35 : decode cX10_layWhose 35 = .ok (.iload 4, 2) := by decide +kernel
theorem dX10_layWhose_37 : decode cX10_layWhose 37 = .ok (.iaload, 1) := by decide +kernel
theorem dX10_layWhose_38 : decode cX10_layWhose 38 = .ok (.iconst (-1), 1) := by decide +kernel
theorem dX10_layWhose_39 : decode cX10_layWhose 39 = .ok (.if_icmp .eq 28, 3) := by decide +kernel
theorem dX10_layWhose_42 : decode cX10_layWhose 42 = .ok (.aload_n 0, 1) := by decide +kernel
theorem dX10_layWhose_43 : decode cX10_layWhose 43 = .ok (.getfield 150, 3) := by decide +kernel
theorem dX10_layWhose_46 : decode cX10_layWhose 46 = .ok (.aload_n 0, 1) := by decide +kernel
theorem dX10_layWhose_47 : decode cX10_layWhose 47 = .ok (.getfield 165, 3) := by decide +kernel
theorem dX10_layWhose_50 : decode cX10_layWhose 50 = .ok (.iload 4, 2) := by decide +kernel
theorem dX10_layWhose_52 : decode cX10_layWhose 52 = .ok (.iaload, 1) := by decide +kernel
theorem dX10_layWhose_53 : decode cX10_layWhose 53 = .ok (.iaload, 1) := by decide +kernel
theorem dX10_layWhose_54 : decode cX10_layWhose 54 = .ok (.istore_n 2, 1) := by decide +kernel
theorem dX10_layWhose_55 : decode cX10_layWhose 55 = .ok (.aload_n 0, 1) := by decide +kernel
theorem dX10_layWhose_56 : decode cX10_layWhose 56 = .ok (.getfield 180, 3) := by decide +kernel
theorem dX10_layWhose_59 : decode cX10_layWhose 59 = .ok (.iload 4, 2) := by decide +kernel
theorem dX10_layWhose_61 : decode cX10_layWhose 61 = .ok (.bipush (-3), 2) := by decide +kernel
theorem dX10_layWhose_63 : decode cX10_layWhose 63 = .ok (.iastore, 1) := by decide +kernel
theorem dX10_layWhose_64 : decode cX10_layWhose 64 = .ok (.goto 30, 3) := by decide +kernel
theorem dX10_layWhose_67 : decode cX10_layWhose 67 = .ok (.aload_n 0, 1) := by decide +kernel
theorem dX10_layWhose_68 : decode cX10_layWhose 68 = .ok (.iload_n 1, 1) := by decide +kernel
theorem dX10_layWhose_69 : decode cX10_layWhose 69 = .ok (.iload_n 3, 1) := by decide +kernel
theorem dX10_layWhose_70 : decode cX10_layWhose 70 = .ok (.invokevirtual 490, 3) := by decide +kernel
theorem dX10_layWhose_73 : decode cX10_layWhose 73 = .ok (.istore 5, 2) := by decide +kernel
theorem dX10_layWhose_75 : decode cX10_layWhose 75 = .ok (.aload_n 0, 1) := by decide +kernel
theorem dX10_layWhose_76 : decode cX10_layWhose 76 = .ok (.getfield 180, 3) := by decide +kernel
theorem dX10_layWhose_79 : decode cX10_layWhose 79 = .ok (.iload 4, 2) := by decide +kernel
theorem dX10_layWhose_81 : decode cX10_layWhose 81 = .ok (.iload 5, 2) := by decide +kernel
theorem dX10_layWhose_83 : decode cX10_layWhose 83 = .ok (.iconst (-1), 1) := by decide +kernel
theorem dX10_layWhose_84 : decode cX10_layWhose 84 = .ok (.if_icmp .eq 8, 3) := by decide +kernel
theorem dX10_layWhose_87 : decode cX10_layWhose 87 = .ok (.iload 5, 2) := by decide +kernel
theorem dX10_layWhose_89 : decode cX10_layWhose 89 = .ok (.goto 4, 3) := by decide +kernel
theorem dX10_layWhose_92 : decode cX10_layWhose 92 = .ok (.iload_n 2, 1) := by decide +kernel
theorem dX10_layWhose_93 : decode cX10_layWhose 93 = .ok (.iastore, 1) := by decide +kernel
theorem dX10_layWhose_94 : decode cX10_layWhose 94 = .ok (.iinc 3 1, 3) := by decide +kernel
theorem dX10_layWhose_97 : decode cX10_layWhose 97 = .ok (.goto (-80), 3) := by decide +kernel
theorem dX10_layWhose_100 : decode cX10_layWhose 100 = .ok (.iinc 1 1, 3) := by decide +kernel
theorem dX10_layWhose_103 : decode cX10_layWhose 103 = .ok (.goto (-101), 3) := by decide +kernel
theorem dX10_layWhose_106 : decode cX10_layWhose 106 = .ok (.return_, 1) := by decide +kernel
theorem dX10_layDay_0 : decode cX10_layDay 0 = .ok (.aload_n 0, 1) := by decide +kernel
theorem dX10_layDay_1 : decode cX10_layDay 1 = .ok (.invokevirtual 493, 3) := by decide +kernel
theorem dX10_layDay_4 : decode cX10_layDay 4 = .ok (.aload_n 0, 1) := by decide +kernel
theorem dX10_layDay_5 : decode cX10_layDay 5 = .ok (.aload_n 0, 1) := by decide +kernel
theorem dX10_layDay_6 : decode cX10_layDay 6 = .ok (.getfield 138, 3) := by decide +kernel
theorem dX10_layDay_9 : decode cX10_layDay 9 = .ok (.iconst 0, 1) := by decide +kernel
theorem dX10_layDay_10 : decode cX10_layDay 10 = .ok (.iaload, 1) := by decide +kernel
theorem dX10_layDay_11 : decode cX10_layDay 11 = .ok (.iconst (-1), 1) := by decide +kernel
theorem dX10_layDay_12 : decode cX10_layDay 12 = .ok (.invokevirtual 496, 3) := by decide +kernel
theorem dX10_layDay_15 : decode cX10_layDay 15 = .ok (.aload_n 0, 1) := by decide +kernel
theorem dX10_layDay_16 : decode cX10_layDay 16 = .ok (.invokevirtual 484, 3) := by decide +kernel
theorem dX10_layDay_19 : decode cX10_layDay 19 = .ok (.aload_n 0, 1) := by decide +kernel
theorem dX10_layDay_20 : decode cX10_layDay 20 = .ok (.invokevirtual 499, 3) := by decide +kernel
theorem dX10_layDay_23 : decode cX10_layDay 23 = .ok (.aload_n 0, 1) := by decide +kernel
theorem dX10_layDay_24 : decode cX10_layDay 24 = .ok (.invokevirtual 502, 3) := by decide +kernel
theorem dX10_layDay_27 : decode cX10_layDay 27 = .ok (.return_, 1) := by decide +kernel
theorem dX10_hasRight_0 : decode cX10_hasRight 0 = .ok (.iconst 0, 1) := by decide +kernel
theorem dX10_hasRight_1 : decode cX10_hasRight 1 = .ok (.istore 4, 2) := by decide +kernel
theorem dX10_hasRight_3 : decode cX10_hasRight 3 = .ok (.iload 4, 2) := by decide +kernel
theorem dX10_hasRight_5 : decode cX10_hasRight 5 = .ok (.aload_n 0, 1) := by decide +kernel
theorem dX10_hasRight_6 : decode cX10_hasRight 6 = .ok (.getfield 13, 3) := by decide +kernel
theorem dX10_hasRight_9 : decode cX10_hasRight 9 = .ok (.iconst 5, 1) := by decide +kernel
theorem dX10_hasRight_10 : decode cX10_hasRight 10 = .ok (.iaload, 1) := by decide +kernel
theorem dX10_hasRight_11 : decode cX10_hasRight 11 = .ok (.if_icmp .ge 55, 3) := by decide +kernel
theorem dX10_hasRight_14 : decode cX10_hasRight 14 = .ok (.aload_n 0, 1) := by decide +kernel
theorem dX10_hasRight_15 : decode cX10_hasRight 15 = .ok (.getfield 64, 3) := by decide +kernel
theorem dX10_hasRight_18 : decode cX10_hasRight 18 = .ok (.iload 4, 2) := by decide +kernel
theorem dX10_hasRight_20 : decode cX10_hasRight 20 = .ok (.iaload, 1) := by decide +kernel
theorem dX10_hasRight_21 : decode cX10_hasRight 21 = .ok (.iload_n 1, 1) := by decide +kernel
theorem dX10_hasRight_22 : decode cX10_hasRight 22 = .ok (.if_icmp .ne 38, 3) := by decide +kernel
theorem dX10_hasRight_25 : decode cX10_hasRight 25 = .ok (.aload_n 0, 1) := by decide +kernel
theorem dX10_hasRight_26 : decode cX10_hasRight 26 = .ok (.getfield 67, 3) := by decide +kernel
theorem dX10_hasRight_29 : decode cX10_hasRight 29 = .ok (.iload 4, 2) := by decide +kernel
theorem dX10_hasRight_31 : decode cX10_hasRight 31 = .ok (.iaload, 1) := by decide +kernel
theorem dX10_hasRight_32 : decode cX10_hasRight 32 = .ok (.iload_n 2, 1) := by decide +kernel
theorem dX10_hasRight_33 : decode cX10_hasRight 33 = .ok (.if_icmp .ne 27, 3) := by decide +kernel
theorem dX10_hasRight_36 : decode cX10_hasRight 36 = .ok (.iload_n 3, 1) := by decide +kernel
theorem dX10_hasRight_37 : decode cX10_hasRight 37 = .ok (.aload_n 0, 1) := by decide +kernel
theorem dX10_hasRight_38 : decode cX10_hasRight 38 = .ok (.getfield 70, 3) := by decide +kernel
theorem dX10_hasRight_41 : decode cX10_hasRight 41 = .ok (.iload 4, 2) := by decide +kernel
theorem dX10_hasRight_43 : decode cX10_hasRight 43 = .ok (.iaload, 1) := by decide +kernel
theorem dX10_hasRight_44 : decode cX10_hasRight 44 = .ok (.if_icmp .lt 16, 3) := by decide +kernel
theorem dX10_hasRight_47 : decode cX10_hasRight 47 = .ok (.iload_n 3, 1) := by decide +kernel
theorem dX10_hasRight_48 : decode cX10_hasRight 48 = .ok (.aload_n 0, 1) := by decide +kernel
theorem dX10_hasRight_49 : decode cX10_hasRight 49 = .ok (.getfield 73, 3) := by decide +kernel
theorem dX10_hasRight_52 : decode cX10_hasRight 52 = .ok (.iload 4, 2) := by decide +kernel
theorem dX10_hasRight_54 : decode cX10_hasRight 54 = .ok (.iaload, 1) := by decide +kernel
theorem dX10_hasRight_55 : decode cX10_hasRight 55 = .ok (.if_icmp .gt 5, 3) := by decide +kernel
theorem dX10_hasRight_58 : decode cX10_hasRight 58 = .ok (.iconst 1, 1) := by decide +kernel
theorem dX10_hasRight_59 : decode cX10_hasRight 59 = .ok (.ireturn, 1) := by decide +kernel
theorem dX10_hasRight_60 : decode cX10_hasRight 60 = .ok (.iinc 4 1, 3) := by decide +kernel
theorem dX10_hasRight_63 : decode cX10_hasRight 63 = .ok (.goto (-60), 3) := by decide +kernel
theorem dX10_hasRight_66 : decode cX10_hasRight 66 = .ok (.iconst 0, 1) := by decide +kernel
theorem dX10_hasRight_67 : decode cX10_hasRight 67 = .ok (.ireturn, 1) := by decide +kernel
theorem dX10_against_0 : decode cX10_against 0 = .ok (.aload_n 0, 1) := by decide +kernel
theorem dX10_against_1 : decode cX10_against 1 = .ok (.iload_n 2, 1) := by decide +kernel
theorem dX10_against_2 : decode cX10_against 2 = .ok (.iload_n 3, 1) := by decide +kernel
theorem dX10_against_3 : decode cX10_against 3 = .ok (.invokevirtual 490, 3) := by decide +kernel
theorem dX10_against_6 : decode cX10_against 6 = .ok (.istore 4, 2) := by decide +kernel
theorem dX10_against_8 : decode cX10_against 8 = .ok (.iload 4, 2) := by decide +kernel
theorem dX10_against_10 : decode cX10_against 10 = .ok (.iconst (-1), 1) := by decide +kernel
theorem dX10_against_11 : decode cX10_against 11 = .ok (.if_icmp .eq 19, 3) := by decide +kernel
theorem dX10_against_14 : decode cX10_against 14 = .ok (.iload 4, 2) := by decide +kernel
theorem dX10_against_16 : decode cX10_against 16 = .ok (.iload_n 1, 1) := by decide +kernel
theorem dX10_against_17 : decode cX10_against 17 = .ok (.if_icmp .eq 13, 3) := by decide +kernel
theorem dX10_against_20 : decode cX10_against 20 = .ok (.aload_n 0, 1) := by decide +kernel
theorem dX10_against_21 : decode cX10_against 21 = .ok (.iload_n 1, 1) := by decide +kernel
theorem dX10_against_22 : decode cX10_against 22 = .ok (.iload_n 2, 1) := by decide +kernel
theorem dX10_against_23 : decode cX10_against 23 = .ok (.iload_n 3, 1) := by decide +kernel
theorem dX10_against_24 : decode cX10_against 24 = .ok (.invokevirtual 505, 3) := by decide +kernel
theorem dX10_against_27 : decode cX10_against 27 = .ok (.ifCond .eq 7, 3) := by decide +kernel
theorem dX10_against_30 : decode cX10_against 30 = .ok (.iconst (-1), 1) := by decide +kernel
theorem dX10_against_31 : decode cX10_against 31 = .ok (.goto 5, 3) := by decide +kernel
theorem dX10_against_34 : decode cX10_against 34 = .ok (.iload 4, 2) := by decide +kernel
theorem dX10_against_36 : decode cX10_against 36 = .ok (.ireturn, 1) := by decide +kernel
theorem dX10_trespasses_0 : decode cX10_trespasses 0 = .ok (.iconst 0, 1) := by decide +kernel
theorem dX10_trespasses_1 : decode cX10_trespasses 1 = .ok (.istore_n 3, 1) := by decide +kernel
theorem dX10_trespasses_2 : decode cX10_trespasses 2 = .ok (.iconst 0, 1) := by decide +kernel
theorem dX10_trespasses_3 : decode cX10_trespasses 3 = .ok (.istore 4, 2) := by decide +kernel
theorem dX10_trespasses_5 : decode cX10_trespasses 5 = .ok (.iload 4, 2) := by decide +kernel
theorem dX10_trespasses_7 : decode cX10_trespasses 7 = .ok (.aload_n 0, 1) := by decide +kernel
theorem dX10_trespasses_8 : decode cX10_trespasses 8 = .ok (.getfield 13, 3) := by decide +kernel
theorem dX10_trespasses_11 : decode cX10_trespasses 11 = .ok (.iconst 0, 1) := by decide +kernel
theorem dX10_trespasses_12 : decode cX10_trespasses 12 = .ok (.iaload, 1) := by decide +kernel
theorem dX10_trespasses_13 : decode cX10_trespasses 13 = .ok (.if_icmp .ge 118, 3) := by decide +kernel
theorem dX10_trespasses_16 : decode cX10_trespasses 16 = .ok (.iconst 0, 1) := by decide +kernel
theorem dX10_trespasses_17 : decode cX10_trespasses 17 = .ok (.istore 5, 2) := by decide +kernel
theorem dX10_trespasses_19 : decode cX10_trespasses 19 = .ok (.iload 5, 2) := by decide +kernel
theorem dX10_trespasses_21 : decode cX10_trespasses 21 = .ok (.bipush 48, 2) := by decide +kernel
theorem dX10_trespasses_23 : decode cX10_trespasses 23 = .ok (.if_icmp .ge 102, 3) := by decide +kernel
theorem dX10_trespasses_26 : decode cX10_trespasses 26 = .ok (.iconst 0, 1) := by decide +kernel
theorem dX10_trespasses_27 : decode cX10_trespasses 27 = .ok (.istore 6, 2) := by decide +kernel
theorem dX10_trespasses_29 : decode cX10_trespasses 29 = .ok (.iload 6, 2) := by decide +kernel
theorem dX10_trespasses_31 : decode cX10_trespasses 31 = .ok (.aload_n 0, 1) := by decide +kernel
theorem dX10_trespasses_32 : decode cX10_trespasses 32 = .ok (.getfield 470, 3) := by decide +kernel
theorem dX10_trespasses_35 : decode cX10_trespasses 35 = .ok (.if_icmp .ge 84, 3) := by decide +kernel
theorem dX10_trespasses_38 : decode cX10_trespasses 38 = .ok (.aload_n 0, 1) := by decide +kernel
theorem dX10_trespasses_39 : decode cX10_trespasses 39 = .ok (.iload 6, 2) := by decide +kernel
theorem dX10_trespasses_41 : decode cX10_trespasses 41 = .ok (.iload 4, 2) := by decide +kernel
theorem dX10_trespasses_43 : decode cX10_trespasses 43 = .ok (.iload 5, 2) := by decide +kernel
theorem dX10_trespasses_45 : decode cX10_trespasses 45 = .ok (.invokevirtual 480, 3) := by decide +kernel
theorem dX10_trespasses_48 : decode cX10_trespasses 48 = .ok (.ifCond .eq 21, 3) := by decide +kernel
theorem dX10_trespasses_51 : decode cX10_trespasses 51 = .ok (.aload_n 0, 1) := by decide +kernel
theorem dX10_trespasses_52 : decode cX10_trespasses 52 = .ok (.aload_n 0, 1) := by decide +kernel
theorem dX10_trespasses_53 : decode cX10_trespasses 53 = .ok (.getfield 150, 3) := by decide +kernel
theorem dX10_trespasses_56 : decode cX10_trespasses 56 = .ok (.iload 6, 2) := by decide +kernel
theorem dX10_trespasses_58 : decode cX10_trespasses 58 = .ok (.iaload, 1) := by decide +kernel
theorem dX10_trespasses_59 : decode cX10_trespasses 59 = .ok (.iload 4, 2) := by decide +kernel
theorem dX10_trespasses_61 : decode cX10_trespasses 61 = .ok (.iload 5, 2) := by decide +kernel
theorem dX10_trespasses_63 : decode cX10_trespasses 63 = .ok (.invokevirtual 508, 3) := by decide +kernel
theorem dX10_trespasses_66 : decode cX10_trespasses 66 = .ok (.goto 4, 3) := by decide +kernel
theorem dX10_trespasses_69 : decode cX10_trespasses 69 = .ok (.iconst (-1), 1) := by decide +kernel
theorem dX10_trespasses_70 : decode cX10_trespasses 70 = .ok (.istore 7, 2) := by decide +kernel
theorem dX10_trespasses_72 : decode cX10_trespasses 72 = .ok (.iload_n 3, 1) := by decide +kernel
theorem dX10_trespasses_73 : decode cX10_trespasses 73 = .ok (.iload 7, 2) := by decide +kernel
theorem dX10_trespasses_75 : decode cX10_trespasses 75 = .ok (.iconst (-1), 1) := by decide +kernel
theorem dX10_trespasses_76 : decode cX10_trespasses 76 = .ok (.if_icmp .eq 34, 3) := by decide +kernel
theorem dX10_trespasses_79 : decode cX10_trespasses 79 = .ok (.iload_n 1, 1) := by decide +kernel
theorem dX10_trespasses_80 : decode cX10_trespasses 80 = .ok (.iconst (-1), 1) := by decide +kernel
theorem dX10_trespasses_81 : decode cX10_trespasses 81 = .ok (.if_icmp .eq 14, 3) := by decide +kernel
theorem dX10_trespasses_84 : decode cX10_trespasses 84 = .ok (.iload_n 1, 1) := by decide +kernel
theorem dX10_trespasses_85 : decode cX10_trespasses 85 = .ok (.aload_n 0, 1) := by decide +kernel
theorem dX10_trespasses_86 : decode cX10_trespasses 86 = .ok (.getfield 150, 3) := by decide +kernel
theorem dX10_trespasses_89 : decode cX10_trespasses 89 = .ok (.iload 6, 2) := by decide +kernel
theorem dX10_trespasses_91 : decode cX10_trespasses 91 = .ok (.iaload, 1) := by decide +kernel
theorem dX10_trespasses_92 : decode cX10_trespasses 92 = .ok (.if_icmp .ne 18, 3) := by decide +kernel
theorem dX10_trespasses_95 : decode cX10_trespasses 95 = .ok (.iload_n 2, 1) := by decide +kernel
theorem dX10_trespasses_96 : decode cX10_trespasses 96 = .ok (.iconst (-1), 1) := by decide +kernel
theorem dX10_trespasses_97 : decode cX10_trespasses 97 = .ok (.if_icmp .eq 9, 3) := by decide +kernel
theorem dX10_trespasses_100 : decode cX10_trespasses 100 = .ok (.iload_n 2, 1) := by decide +kernel
theorem dX10_trespasses_101 : decode cX10_trespasses 101 = .ok (.iload 7, 2) := by decide +kernel
theorem dX10_trespasses_103 : decode cX10_trespasses 103 = .ok (.if_icmp .ne 7, 3) := by decide +kernel
theorem dX10_trespasses_106 : decode cX10_trespasses 106 = .ok (.iconst 1, 1) := by decide +kernel
theorem dX10_trespasses_107 : decode cX10_trespasses 107 = .ok (.goto 4, 3) := by decide +kernel
theorem dX10_trespasses_110 : decode cX10_trespasses 110 = .ok (.iconst 0, 1) := by decide +kernel
theorem dX10_trespasses_111 : decode cX10_trespasses 111 = .ok (.iadd, 1) := by decide +kernel
theorem dX10_trespasses_112 : decode cX10_trespasses 112 = .ok (.istore_n 3, 1) := by decide +kernel
theorem dX10_trespasses_113 : decode cX10_trespasses 113 = .ok (.iinc 6 1, 3) := by decide +kernel
theorem dX10_trespasses_116 : decode cX10_trespasses 116 = .ok (.goto (-87), 3) := by decide +kernel
theorem dX10_trespasses_119 : decode cX10_trespasses 119 = .ok (.iinc 5 1, 3) := by decide +kernel
theorem dX10_trespasses_122 : decode cX10_trespasses 122 = .ok (.goto (-103), 3) := by decide +kernel
theorem dX10_trespasses_125 : decode cX10_trespasses 125 = .ok (.iinc 4 1, 3) := by decide +kernel
theorem dX10_trespasses_128 : decode cX10_trespasses 128 = .ok (.goto (-123), 3) := by decide +kernel
theorem dX10_trespasses_131 : decode cX10_trespasses 131 = .ok (.iload_n 3, 1) := by decide +kernel
theorem dX10_trespasses_132 : decode cX10_trespasses 132 = .ok (.ireturn, 1) := by decide +kernel
theorem dX10_owner_0 : decode cX10_owner 0 = .ok (.aload_n 0, 1) := by decide +kernel
theorem dX10_owner_1 : decode cX10_owner 1 = .ok (.aload_n 0, 1) := by decide +kernel
theorem dX10_owner_2 : decode cX10_owner 2 = .ok (.iload_n 1, 1) := by decide +kernel
theorem dX10_owner_3 : decode cX10_owner 3 = .ok (.invokevirtual 512, 3) := by decide +kernel
theorem dX10_owner_6 : decode cX10_owner 6 = .ok (.ifCond .ne 7, 3) := by decide +kernel
theorem dX10_owner_9 : decode cX10_owner 9 = .ok (.iconst 1, 1) := by decide +kernel
theorem dX10_owner_10 : decode cX10_owner 10 = .ok (.goto 17, 3) := by decide +kernel
theorem dX10_owner_13 : decode cX10_owner 13 = .ok (.iload_n 2, 1) := by decide +kernel
theorem dX10_owner_14 : decode cX10_owner 14 = .ok (.ifCond .lt 8, 3) := by decide +kernel
theorem dX10_owner_17 : decode cX10_owner 17 = .ok (.iload_n 2, 1) := by decide +kernel
theorem dX10_owner_18 : decode cX10_owner 18 = .ok (.iconst 4, 1) := by decide +kernel
theorem dX10_owner_19 : decode cX10_owner 19 = .ok (.if_icmp .le 7, 3) := by decide +kernel
theorem dX10_owner_22 : decode cX10_owner 22 = .ok (.iconst 2, 1) := by decide +kernel
theorem dX10_owner_23 : decode cX10_owner 23 = .ok (.goto 4, 3) := by decide +kernel
theorem dX10_owner_26 : decode cX10_owner 26 = .ok (.iconst 0, 1) := by decide +kernel
theorem dX10_owner_27 : decode cX10_owner 27 = .ok (.putfield 235, 3) := by decide +kernel
theorem dX10_owner_30 : decode cX10_owner 30 = .ok (.aload_n 0, 1) := by decide +kernel
theorem dX10_owner_31 : decode cX10_owner 31 = .ok (.getfield 235, 3) := by decide +kernel
theorem dX10_owner_34 : decode cX10_owner 34 = .ok (.ifCond .eq 5, 3) := by decide +kernel
theorem dX10_owner_37 : decode cX10_owner 37 = .ok (.iconst 0, 1) := by decide +kernel
theorem dX10_owner_38 : decode cX10_owner 38 = .ok (.ireturn, 1) := by decide +kernel
theorem dX10_owner_39 : decode cX10_owner 39 = .ok (.iload_n 2, 1) := by decide +kernel
theorem dX10_owner_40 : decode cX10_owner 40 = .ok (.ifCond .ne 10, 3) := by decide +kernel
theorem dX10_owner_43 : decode cX10_owner 43 = .ok (.aload_n 0, 1) := by decide +kernel
theorem dX10_owner_44 : decode cX10_owner 44 = .ok (.getfield 141, 3) := by decide +kernel
theorem dX10_owner_47 : decode cX10_owner 47 = .ok (.iload_n 1, 1) := by decide +kernel
theorem dX10_owner_48 : decode cX10_owner 48 = .ok (.iaload, 1) := by decide +kernel
theorem dX10_owner_49 : decode cX10_owner 49 = .ok (.ireturn, 1) := by decide +kernel
theorem dX10_owner_50 : decode cX10_owner 50 = .ok (.iload_n 2, 1) := by decide +kernel
theorem dX10_owner_51 : decode cX10_owner 51 = .ok (.iconst 1, 1) := by decide +kernel
theorem dX10_owner_52 : decode cX10_owner 52 = .ok (.if_icmp .ne 12, 3) := by decide +kernel
theorem dX10_owner_55 : decode cX10_owner 55 = .ok (.aload_n 0, 1) := by decide +kernel
theorem dX10_owner_56 : decode cX10_owner 56 = .ok (.getfield 34, 3) := by decide +kernel
theorem dX10_owner_59 : decode cX10_owner 59 = .ok (.iload_n 1, 1) := by decide +kernel
theorem dX10_owner_60 : decode cX10_owner 60 = .ok (.iaload, 1) := by decide +kernel
theorem dX10_owner_61 : decode cX10_owner 61 = .ok (.iconst 1, 1) := by decide +kernel
theorem dX10_owner_62 : decode cX10_owner 62 = .ok (.isub, 1) := by decide +kernel
theorem dX10_owner_63 : decode cX10_owner 63 = .ok (.ireturn, 1) := by decide +kernel
theorem dX10_owner_64 : decode cX10_owner 64 = .ok (.aload_n 0, 1) := by decide +kernel
theorem dX10_owner_65 : decode cX10_owner 65 = .ok (.invokevirtual 515, 3) := by decide +kernel
theorem dX10_owner_68 : decode cX10_owner 68 = .ok (.iload_n 2, 1) := by decide +kernel
theorem dX10_owner_69 : decode cX10_owner 69 = .ok (.iconst 3, 1) := by decide +kernel
theorem dX10_owner_70 : decode cX10_owner 70 = .ok (.if_icmp .ne 10, 3) := by decide +kernel
theorem dX10_owner_73 : decode cX10_owner 73 = .ok (.aload_n 0, 1) := by decide +kernel
theorem dX10_owner_74 : decode cX10_owner 74 = .ok (.iload_n 1, 1) := by decide +kernel
theorem dX10_owner_75 : decode cX10_owner 75 = .ok (.iconst (-1), 1) := by decide +kernel
theorem dX10_owner_76 : decode cX10_owner 76 = .ok (.invokevirtual 518, 3) := by decide +kernel
theorem dX10_owner_79 : decode cX10_owner 79 = .ok (.ireturn, 1) := by decide +kernel
theorem dX10_owner_80 : decode cX10_owner 80 = .ok (.iload_n 2, 1) := by decide +kernel
theorem dX10_owner_81 : decode cX10_owner 81 = .ok (.iconst 4, 1) := by decide +kernel
theorem dX10_owner_82 : decode cX10_owner 82 = .ok (.if_icmp .ne 10, 3) := by decide +kernel
theorem dX10_owner_85 : decode cX10_owner 85 = .ok (.aload_n 0, 1) := by decide +kernel
theorem dX10_owner_86 : decode cX10_owner 86 = .ok (.iconst (-1), 1) := by decide +kernel
theorem dX10_owner_87 : decode cX10_owner 87 = .ok (.iload_n 1, 1) := by decide +kernel
theorem dX10_owner_88 : decode cX10_owner 88 = .ok (.invokevirtual 518, 3) := by decide +kernel
theorem dX10_owner_91 : decode cX10_owner 91 = .ok (.ireturn, 1) := by decide +kernel
theorem dX10_owner_92 : decode cX10_owner 92 = .ok (.iconst 0, 1) := by decide +kernel
theorem dX10_owner_93 : decode cX10_owner 93 = .ok (.istore_n 3, 1) := by decide +kernel
theorem dX10_owner_94 : decode cX10_owner 94 = .ok (.iconst 0, 1) := by decide +kernel
theorem dX10_owner_95 : decode cX10_owner 95 = .ok (.istore 4, 2) := by decide +kernel
theorem dX10_owner_97 : decode cX10_owner 97 = .ok (.iload 4, 2) := by decide +kernel
theorem dX10_owner_99 : decode cX10_owner 99 = .ok (.bipush 48, 2) := by decide +kernel
theorem dX10_owner_101 : decode cX10_owner 101 = .ok (.aload_n 0, 1) := by decide +kernel
theorem dX10_owner_102 : decode cX10_owner 102 = .ok (.getfield 13, 3) := by decide +kernel
theorem dX10_owner_105 : decode cX10_owner 105 = .ok (.iconst 0, 1) := by decide +kernel
theorem dX10_owner_106 : decode cX10_owner 106 = .ok (.iaload, 1) := by decide +kernel
theorem dX10_owner_107 : decode cX10_owner 107 = .ok (.imul, 1) := by decide +kernel
theorem dX10_owner_108 : decode cX10_owner 108 = .ok (.if_icmp .ge 28, 3) := by decide +kernel
theorem dX10_owner_111 : decode cX10_owner 111 = .ok (.iload_n 3, 1) := by decide +kernel
theorem dX10_owner_112 : decode cX10_owner 112 = .ok (.aload_n 0, 1) := by decide +kernel
theorem dX10_owner_113 : decode cX10_owner 113 = .ok (.getfield 180, 3) := by decide +kernel
theorem dX10_owner_116 : decode cX10_owner 116 = .ok (.iload 4, 2) := by decide +kernel
theorem dX10_owner_118 : decode cX10_owner 118 = .ok (.iaload, 1) := by decide +kernel
theorem dX10_owner_119 : decode cX10_owner 119 = .ok (.iload_n 1, 1) := by decide +kernel
theorem dX10_owner_120 : decode cX10_owner 120 = .ok (.if_icmp .ne 7, 3) := by decide +kernel
theorem dX10_owner_123 : decode cX10_owner 123 = .ok (.iconst 1, 1) := by decide +kernel
theorem dX10_owner_124 : decode cX10_owner 124 = .ok (.goto 4, 3) := by decide +kernel
theorem dX10_owner_127 : decode cX10_owner 127 = .ok (.iconst 0, 1) := by decide +kernel
theorem dX10_owner_128 : decode cX10_owner 128 = .ok (.iadd, 1) := by decide +kernel
theorem dX10_owner_129 : decode cX10_owner 129 = .ok (.istore_n 3, 1) := by decide +kernel
theorem dX10_owner_130 : decode cX10_owner 130 = .ok (.iinc 4 1, 3) := by decide +kernel
theorem dX10_owner_133 : decode cX10_owner 133 = .ok (.goto (-36), 3) := by decide +kernel
theorem dX10_owner_136 : decode cX10_owner 136 = .ok (.iload_n 3, 1) := by decide +kernel
theorem dX10_owner_137 : decode cX10_owner 137 = .ok (.ireturn, 1) := by decide +kernel
theorem dX10_noise_0 : decode cX10_noise 0 = .ok (.aload_n 0, 1) := by decide +kernel
theorem dX10_noise_1 : decode cX10_noise 1 = .ok (.iconst 0, 1) := by decide +kernel
theorem dX10_noise_2 : decode cX10_noise 2 = .ok (.putfield 235, 3) := by decide +kernel
theorem dX10_noise_5 : decode cX10_noise 5 = .ok (.aload_n 0, 1) := by decide +kernel
theorem dX10_noise_6 : decode cX10_noise 6 = .ok (.iload_n 1, 1) := by decide +kernel
theorem dX10_noise_7 : decode cX10_noise 7 = .ok (.invokevirtual 521, 3) := by decide +kernel
theorem dX10_noise_10 : decode cX10_noise 10 = .ok (.ifCond .ne 5, 3) := by decide +kernel
theorem dX10_noise_13 : decode cX10_noise 13 = .ok (.iconst (-1), 1) := by decide +kernel
theorem dX10_noise_14 : decode cX10_noise 14 = .ok (.ireturn, 1) := by decide +kernel
theorem dX10_noise_15 : decode cX10_noise 15 = .ok (.iload_n 2, 1) := by decide +kernel
theorem dX10_noise_16 : decode cX10_noise 16 = .ok (.tableswitch 86 0 5 #[40, 47, 54, 61, 68, 75], 40) := by decide +kernel
theorem dX10_noise_56 : decode cX10_noise 56 = .ok (.aload_n 0, 1) := by decide +kernel
theorem dX10_noise_57 : decode cX10_noise 57 = .ok (.getfield 117, 3) := by decide +kernel
theorem dX10_noise_60 : decode cX10_noise 60 = .ok (.iload_n 1, 1) := by decide +kernel
theorem dX10_noise_61 : decode cX10_noise 61 = .ok (.iaload, 1) := by decide +kernel
theorem dX10_noise_62 : decode cX10_noise 62 = .ok (.ireturn, 1) := by decide +kernel
theorem dX10_noise_63 : decode cX10_noise 63 = .ok (.aload_n 0, 1) := by decide +kernel
theorem dX10_noise_64 : decode cX10_noise 64 = .ok (.getfield 120, 3) := by decide +kernel
theorem dX10_noise_67 : decode cX10_noise 67 = .ok (.iload_n 1, 1) := by decide +kernel
theorem dX10_noise_68 : decode cX10_noise 68 = .ok (.iaload, 1) := by decide +kernel
theorem dX10_noise_69 : decode cX10_noise 69 = .ok (.ireturn, 1) := by decide +kernel
theorem dX10_noise_70 : decode cX10_noise 70 = .ok (.aload_n 0, 1) := by decide +kernel
theorem dX10_noise_71 : decode cX10_noise 71 = .ok (.getfield 123, 3) := by decide +kernel
theorem dX10_noise_74 : decode cX10_noise 74 = .ok (.iload_n 1, 1) := by decide +kernel
theorem dX10_noise_75 : decode cX10_noise 75 = .ok (.iaload, 1) := by decide +kernel
theorem dX10_noise_76 : decode cX10_noise 76 = .ok (.ireturn, 1) := by decide +kernel
theorem dX10_noise_77 : decode cX10_noise 77 = .ok (.aload_n 0, 1) := by decide +kernel
theorem dX10_noise_78 : decode cX10_noise 78 = .ok (.getfield 126, 3) := by decide +kernel
theorem dX10_noise_81 : decode cX10_noise 81 = .ok (.iload_n 1, 1) := by decide +kernel
theorem dX10_noise_82 : decode cX10_noise 82 = .ok (.iaload, 1) := by decide +kernel
theorem dX10_noise_83 : decode cX10_noise 83 = .ok (.ireturn, 1) := by decide +kernel
theorem dX10_noise_84 : decode cX10_noise 84 = .ok (.aload_n 0, 1) := by decide +kernel
theorem dX10_noise_85 : decode cX10_noise 85 = .ok (.getfield 129, 3) := by decide +kernel
theorem dX10_noise_88 : decode cX10_noise 88 = .ok (.iload_n 1, 1) := by decide +kernel
theorem dX10_noise_89 : decode cX10_noise 89 = .ok (.iaload, 1) := by decide +kernel
theorem dX10_noise_90 : decode cX10_noise 90 = .ok (.ireturn, 1) := by decide +kernel
theorem dX10_noise_91 : decode cX10_noise 91 = .ok (.aload_n 0, 1) := by decide +kernel
theorem dX10_noise_92 : decode cX10_noise 92 = .ok (.getfield 132, 3) := by decide +kernel
theorem dX10_noise_95 : decode cX10_noise 95 = .ok (.iconst 0, 1) := by decide +kernel
theorem dX10_noise_96 : decode cX10_noise 96 = .ok (.iaload, 1) := by decide +kernel
theorem dX10_noise_97 : decode cX10_noise 97 = .ok (.iload_n 1, 1) := by decide +kernel
theorem dX10_noise_98 : decode cX10_noise 98 = .ok (.ishr, 1) := by decide +kernel
theorem dX10_noise_99 : decode cX10_noise 99 = .ok (.iconst 1, 1) := by decide +kernel
theorem dX10_noise_100 : decode cX10_noise 100 = .ok (.iand, 1) := by decide +kernel
theorem dX10_noise_101 : decode cX10_noise 101 = .ok (.ireturn, 1) := by decide +kernel
theorem dX10_noise_102 : decode cX10_noise 102 = .ok (.iconst (-1), 1) := by decide +kernel
theorem dX10_noise_103 : decode cX10_noise 103 = .ok (.ireturn, 1) := by decide +kernel
theorem dX10_claim_0 : decode cX10_claim 0 = .ok (.aload_n 0, 1) := by decide +kernel
theorem dX10_claim_1 : decode cX10_claim 1 = .ok (.iconst 0, 1) := by decide +kernel
theorem dX10_claim_2 : decode cX10_claim 2 = .ok (.putfield 235, 3) := by decide +kernel
theorem dX10_claim_5 : decode cX10_claim 5 = .ok (.iload_n 1, 1) := by decide +kernel
theorem dX10_claim_6 : decode cX10_claim 6 = .ok (.ifCond .lt 13, 3) := by decide +kernel
theorem dX10_claim_9 : decode cX10_claim 9 = .ok (.iload_n 1, 1) := by decide +kernel
theorem dX10_claim_10 : decode cX10_claim 10 = .ok (.aload_n 0, 1) := by decide +kernel
theorem dX10_claim_11 : decode cX10_claim 11 = .ok (.getfield 13, 3) := by decide +kernel
theorem dX10_claim_14 : decode cX10_claim 14 = .ok (.iconst 4, 1) := by decide +kernel
theorem dX10_claim_15 : decode cX10_claim 15 = .ok (.iaload, 1) := by decide +kernel
theorem dX10_claim_16 : decode cX10_claim 16 = .ok (.if_icmp .lt 5, 3) := by decide +kernel
theorem dX10_claim_19 : decode cX10_claim 19 = .ok (.iconst (-1), 1) := by decide +kernel
theorem dX10_claim_20 : decode cX10_claim 20 = .ok (.ireturn, 1) := by decide +kernel
theorem dX10_claim_21 : decode cX10_claim 21 = .ok (.iload_n 2, 1) := by decide +kernel
theorem dX10_claim_22 : decode cX10_claim 22 = .ok (.ifCond .ne 12, 3) := by decide +kernel
theorem dX10_claim_25 : decode cX10_claim 25 = .ok (.aload_n 0, 1) := by decide +kernel
theorem dX10_claim_26 : decode cX10_claim 26 = .ok (.getfield 135, 3) := by decide +kernel
theorem dX10_claim_29 : decode cX10_claim 29 = .ok (.iload_n 1, 1) := by decide +kernel
theorem dX10_claim_30 : decode cX10_claim 30 = .ok (.iaload, 1) := by decide +kernel
theorem dX10_claim_31 : decode cX10_claim 31 = .ok (.goto 46, 3) := by decide +kernel
theorem dX10_claim_34 : decode cX10_claim 34 = .ok (.iload_n 2, 1) := by decide +kernel
theorem dX10_claim_35 : decode cX10_claim 35 = .ok (.iconst 1, 1) := by decide +kernel
theorem dX10_claim_36 : decode cX10_claim 36 = .ok (.if_icmp .ne 12, 3) := by decide +kernel
theorem dX10_claim_39 : decode cX10_claim 39 = .ok (.aload_n 0, 1) := by decide +kernel
theorem dX10_claim_40 : decode cX10_claim 40 = .ok (.getfield 55, 3) := by decide +kernel
theorem dX10_claim_43 : decode cX10_claim 43 = .ok (.iload_n 1, 1) := by decide +kernel
theorem dX10_claim_44 : decode cX10_claim 44 = .ok (.iaload, 1) := by decide +kernel
theorem dX10_claim_45 : decode cX10_claim 45 = .ok (.goto 32, 3) := by decide +kernel
theorem dX10_claim_48 : decode cX10_claim 48 = .ok (.iload_n 2, 1) := by decide +kernel
theorem dX10_claim_49 : decode cX10_claim 49 = .ok (.iconst 2, 1) := by decide +kernel
theorem dX10_claim_50 : decode cX10_claim 50 = .ok (.if_icmp .ne 12, 3) := by decide +kernel
theorem dX10_claim_53 : decode cX10_claim 53 = .ok (.aload_n 0, 1) := by decide +kernel
theorem dX10_claim_54 : decode cX10_claim 54 = .ok (.getfield 58, 3) := by decide +kernel
theorem dX10_claim_57 : decode cX10_claim 57 = .ok (.iload_n 1, 1) := by decide +kernel
theorem dX10_claim_58 : decode cX10_claim 58 = .ok (.iaload, 1) := by decide +kernel
theorem dX10_claim_59 : decode cX10_claim 59 = .ok (.goto 18, 3) := by decide +kernel
theorem dX10_claim_62 : decode cX10_claim 62 = .ok (.iload_n 2, 1) := by decide +kernel
theorem dX10_claim_63 : decode cX10_claim 63 = .ok (.iconst 3, 1) := by decide +kernel
theorem dX10_claim_64 : decode cX10_claim 64 = .ok (.if_icmp .ne 12, 3) := by decide +kernel
theorem dX10_claim_67 : decode cX10_claim 67 = .ok (.aload_n 0, 1) := by decide +kernel
theorem dX10_claim_68 : decode cX10_claim 68 = .ok (.getfield 61, 3) := by decide +kernel
theorem dX10_claim_71 : decode cX10_claim 71 = .ok (.iload_n 1, 1) := by decide +kernel
theorem dX10_claim_72 : decode cX10_claim 72 = .ok (.iaload, 1) := by decide +kernel
theorem dX10_claim_73 : decode cX10_claim 73 = .ok (.goto 4, 3) := by decide +kernel
theorem dX10_claim_76 : decode cX10_claim 76 = .ok (.iconst (-1), 1) := by decide +kernel
theorem dX10_claim_77 : decode cX10_claim 77 = .ok (.ireturn, 1) := by decide +kernel
theorem dX10_isLink_0 : decode cX10_isLink 0 = .ok (.iload_n 1, 1) := by decide +kernel
theorem dX10_isLink_1 : decode cX10_isLink 1 = .ok (.ifCond .lt 17, 3) := by decide +kernel
theorem dX10_isLink_4 : decode cX10_isLink 4 = .ok (.iload_n 1, 1) := by decide +kernel
theorem dX10_isLink_5 : decode cX10_isLink 5 = .ok (.aload_n 0, 1) := by decide +kernel
theorem dX10_isLink_6 : decode cX10_isLink 6 = .ok (.getfield 13, 3) := by decide +kernel
theorem dX10_isLink_9 : decode cX10_isLink 9 = .ok (.iconst 1, 1) := by decide +kernel
theorem dX10_isLink_10 : decode cX10_isLink 10 = .ok (.iaload, 1) := by decide +kernel
theorem dX10_isLink_11 : decode cX10_isLink 11 = .ok (.if_icmp .ge 7, 3) := by decide +kernel
theorem dX10_isLink_14 : decode cX10_isLink 14 = .ok (.iconst 1, 1) := by decide +kernel
theorem dX10_isLink_15 : decode cX10_isLink 15 = .ok (.goto 4, 3) := by decide +kernel
theorem dX10_isLink_18 : decode cX10_isLink 18 = .ok (.iconst 0, 1) := by decide +kernel
theorem dX10_isLink_19 : decode cX10_isLink 19 = .ok (.ireturn, 1) := by decide +kernel
theorem dX10_link_0 : decode cX10_link 0 = .ok (.aload_n 0, 1) := by decide +kernel
theorem dX10_link_1 : decode cX10_link 1 = .ok (.iconst 0, 1) := by decide +kernel
theorem dX10_link_2 : decode cX10_link 2 = .ok (.putfield 235, 3) := by decide +kernel
theorem dX10_link_5 : decode cX10_link 5 = .ok (.aload_n 0, 1) := by decide +kernel
theorem dX10_link_6 : decode cX10_link 6 = .ok (.iload_n 1, 1) := by decide +kernel
theorem dX10_link_7 : decode cX10_link 7 = .ok (.invokevirtual 524, 3) := by decide +kernel
theorem dX10_link_10 : decode cX10_link 10 = .ok (.ifCond .ne 5, 3) := by decide +kernel
theorem dX10_link_13 : decode cX10_link 13 = .ok (.iconst (-1), 1) := by decide +kernel
theorem dX10_link_14 : decode cX10_link 14 = .ok (.ireturn, 1) := by decide +kernel
theorem dX10_link_15 : decode cX10_link 15 = .ok (.iload_n 2, 1) := by decide +kernel
theorem dX10_link_16 : decode cX10_link 16 = .ok (.ifCond .ne 12, 3) := by decide +kernel
theorem dX10_link_19 : decode cX10_link 19 = .ok (.aload_n 0, 1) := by decide +kernel
theorem dX10_link_20 : decode cX10_link 20 = .ok (.getfield 19, 3) := by decide +kernel
theorem dX10_link_23 : decode cX10_link 23 = .ok (.iload_n 1, 1) := by decide +kernel
theorem dX10_link_24 : decode cX10_link 24 = .ok (.iaload, 1) := by decide +kernel
theorem dX10_link_25 : decode cX10_link 25 = .ok (.goto 50, 3) := by decide +kernel
theorem dX10_link_28 : decode cX10_link 28 = .ok (.iload_n 2, 1) := by decide +kernel
theorem dX10_link_29 : decode cX10_link 29 = .ok (.iconst 1, 1) := by decide +kernel
theorem dX10_link_30 : decode cX10_link 30 = .ok (.if_icmp .ne 12, 3) := by decide +kernel
theorem dX10_link_33 : decode cX10_link 33 = .ok (.aload_n 0, 1) := by decide +kernel
theorem dX10_link_34 : decode cX10_link 34 = .ok (.getfield 22, 3) := by decide +kernel
theorem dX10_link_37 : decode cX10_link 37 = .ok (.iload_n 1, 1) := by decide +kernel
theorem dX10_link_38 : decode cX10_link 38 = .ok (.iaload, 1) := by decide +kernel
theorem dX10_link_39 : decode cX10_link 39 = .ok (.goto 36, 3) := by decide +kernel
theorem dX10_link_42 : decode cX10_link 42 = .ok (.iload_n 2, 1) := by decide +kernel
theorem dX10_link_43 : decode cX10_link 43 = .ok (.iconst 2, 1) := by decide +kernel
theorem dX10_link_44 : decode cX10_link 44 = .ok (.if_icmp .ne 12, 3) := by decide +kernel
theorem dX10_link_47 : decode cX10_link 47 = .ok (.aload_n 0, 1) := by decide +kernel
theorem dX10_link_48 : decode cX10_link 48 = .ok (.getfield 25, 3) := by decide +kernel
theorem dX10_link_51 : decode cX10_link 51 = .ok (.iload_n 1, 1) := by decide +kernel
theorem dX10_link_52 : decode cX10_link 52 = .ok (.iaload, 1) := by decide +kernel
theorem dX10_link_53 : decode cX10_link 53 = .ok (.goto 22, 3) := by decide +kernel
theorem dX10_link_56 : decode cX10_link 56 = .ok (.iload_n 2, 1) := by decide +kernel
theorem dX10_link_57 : decode cX10_link 57 = .ok (.iconst 3, 1) := by decide +kernel
theorem dX10_link_58 : decode cX10_link 58 = .ok (.if_icmp .ne 16, 3) := by decide +kernel
theorem dX10_link_61 : decode cX10_link 61 = .ok (.aload_n 0, 1) := by decide +kernel
theorem dX10_link_62 : decode cX10_link 62 = .ok (.getfield 138, 3) := by decide +kernel
theorem dX10_link_65 : decode cX10_link 65 = .ok (.iconst 0, 1) := by decide +kernel
theorem dX10_link_66 : decode cX10_link 66 = .ok (.iaload, 1) := by decide +kernel
theorem dX10_link_67 : decode cX10_link 67 = .ok (.iload_n 1, 1) := by decide +kernel
theorem dX10_link_68 : decode cX10_link 68 = .ok (.ishr, 1) := by decide +kernel
theorem dX10_link_69 : decode cX10_link 69 = .ok (.iconst 1, 1) := by decide +kernel
theorem dX10_link_70 : decode cX10_link 70 = .ok (.iand, 1) := by decide +kernel
theorem dX10_link_71 : decode cX10_link 71 = .ok (.goto 4, 3) := by decide +kernel
theorem dX10_link_74 : decode cX10_link 74 = .ok (.iconst (-1), 1) := by decide +kernel
theorem dX10_link_75 : decode cX10_link 75 = .ok (.ireturn, 1) := by decide +kernel
theorem dX10_far_0 : decode cX10_far 0 = .ok (.aload_n 0, 1) := by decide +kernel
theorem dX10_far_1 : decode cX10_far 1 = .ok (.iconst 0, 1) := by decide +kernel
theorem dX10_far_2 : decode cX10_far 2 = .ok (.putfield 235, 3) := by decide +kernel
theorem dX10_far_5 : decode cX10_far 5 = .ok (.aload_n 0, 1) := by decide +kernel
theorem dX10_far_6 : decode cX10_far 6 = .ok (.iload_n 1, 1) := by decide +kernel
theorem dX10_far_7 : decode cX10_far 7 = .ok (.invokevirtual 527, 3) := by decide +kernel
theorem dX10_far_10 : decode cX10_far 10 = .ok (.ifCond .eq 11, 3) := by decide +kernel
theorem dX10_far_13 : decode cX10_far 13 = .ok (.aload_n 0, 1) := by decide +kernel
theorem dX10_far_14 : decode cX10_far 14 = .ok (.iload_n 2, 1) := by decide +kernel
theorem dX10_far_15 : decode cX10_far 15 = .ok (.invokevirtual 527, 3) := by decide +kernel
theorem dX10_far_18 : decode cX10_far 18 = .ok (.ifCond .ne 5, 3) := by decide +kernel
theorem dX10_far_21 : decode cX10_far 21 = .ok (.iconst (-1), 1) := by decide +kernel
theorem dX10_far_22 : decode cX10_far 22 = .ok (.ireturn, 1) := by decide +kernel
theorem dX10_far_23 : decode cX10_far 23 = .ok (.aload_n 0, 1) := by decide +kernel
theorem dX10_far_24 : decode cX10_far 24 = .ok (.aload_n 0, 1) := by decide +kernel
theorem dX10_far_25 : decode cX10_far 25 = .ok (.getfield 138, 3) := by decide +kernel
theorem dX10_far_28 : decode cX10_far 28 = .ok (.iconst 0, 1) := by decide +kernel
theorem dX10_far_29 : decode cX10_far 29 = .ok (.iaload, 1) := by decide +kernel
theorem dX10_far_30 : decode cX10_far 30 = .ok (.iconst (-1), 1) := by decide +kernel
theorem dX10_far_31 : decode cX10_far 31 = .ok (.invokevirtual 496, 3) := by decide +kernel
theorem dX10_far_34 : decode cX10_far 34 = .ok (.aload_n 0, 1) := by decide +kernel
theorem dX10_far_35 : decode cX10_far 35 = .ok (.getfield 162, 3) := by decide +kernel
theorem dX10_far_38 : decode cX10_far 38 = .ok (.bipush 6, 2) := by decide +kernel
theorem dX10_far_40 : decode cX10_far 40 = .ok (.iload_n 1, 1) := by decide +kernel
theorem dX10_far_41 : decode cX10_far 41 = .ok (.imul, 1) := by decide +kernel
theorem dX10_far_42 : decode cX10_far 42 = .ok (.iload_n 2, 1) := by decide +kernel
theorem dX10_far_43 : decode cX10_far 43 = .ok (.iadd, 1) := by decide +kernel
theorem dX10_far_44 : decode cX10_far 44 = .ok (.iaload, 1) := by decide +kernel
theorem dX10_far_45 : decode cX10_far 45 = .ok (.istore_n 3, 1) := by decide +kernel
theorem dX10_far_46 : decode cX10_far 46 = .ok (.iload_n 3, 1) := by decide +kernel
theorem dX10_far_47 : decode cX10_far 47 = .ok (.ldc_w 473, 3) := by decide +kernel
theorem dX10_far_50 : decode cX10_far 50 = .ok (.if_icmp .lt 8, 3) := by decide +kernel
theorem dX10_far_53 : decode cX10_far 53 = .ok (.bipush (-2), 2) := by decide +kernel
theorem dX10_far_55 : decode cX10_far 55 = .ok (.goto 4, 3) := by decide +kernel
theorem dX10_far_58 : decode cX10_far 58 = .ok (.iload_n 3, 1) := by decide +kernel
theorem dX10_far_59 : decode cX10_far 59 = .ok (.ireturn, 1) := by decide +kernel
theorem dX10_heard_0 : decode cX10_heard 0 = .ok (.aload_n 0, 1) := by decide +kernel
theorem dX10_heard_1 : decode cX10_heard 1 = .ok (.iconst 0, 1) := by decide +kernel
theorem dX10_heard_2 : decode cX10_heard 2 = .ok (.putfield 235, 3) := by decide +kernel
theorem dX10_heard_5 : decode cX10_heard 5 = .ok (.aload_n 0, 1) := by decide +kernel
theorem dX10_heard_6 : decode cX10_heard 6 = .ok (.iload_n 1, 1) := by decide +kernel
theorem dX10_heard_7 : decode cX10_heard 7 = .ok (.invokevirtual 527, 3) := by decide +kernel
theorem dX10_heard_10 : decode cX10_heard 10 = .ok (.ifCond .eq 10, 3) := by decide +kernel
theorem dX10_heard_13 : decode cX10_heard 13 = .ok (.iload_n 2, 1) := by decide +kernel
theorem dX10_heard_14 : decode cX10_heard 14 = .ok (.invokestatic 530, 3) := by decide +kernel
theorem dX10_heard_17 : decode cX10_heard 17 = .ok (.ifCond .ne 5, 3) := by decide +kernel
theorem dX10_heard_20 : decode cX10_heard 20 = .ok (.iconst (-1), 1) := by decide +kernel
theorem dX10_heard_21 : decode cX10_heard 21 = .ok (.ireturn, 1) := by decide +kernel
theorem dX10_heard_22 : decode cX10_heard 22 = .ok (.aload_n 0, 1) := by decide +kernel
theorem dX10_heard_23 : decode cX10_heard 23 = .ok (.invokevirtual 515, 3) := by decide +kernel
theorem dX10_heard_26 : decode cX10_heard 26 = .ok (.aload_n 0, 1) := by decide +kernel
theorem dX10_heard_27 : decode cX10_heard 27 = .ok (.getfield 165, 3) := by decide +kernel
theorem dX10_heard_30 : decode cX10_heard 30 = .ok (.bipush 48, 2) := by decide +kernel
theorem dX10_heard_32 : decode cX10_heard 32 = .ok (.iload_n 1, 1) := by decide +kernel
theorem dX10_heard_33 : decode cX10_heard 33 = .ok (.imul, 1) := by decide +kernel
theorem dX10_heard_34 : decode cX10_heard 34 = .ok (.iload_n 2, 1) := by decide +kernel
theorem dX10_heard_35 : decode cX10_heard 35 = .ok (.iadd, 1) := by decide +kernel
theorem dX10_heard_36 : decode cX10_heard 36 = .ok (.iaload, 1) := by decide +kernel
theorem dX10_heard_37 : decode cX10_heard 37 = .ok (.istore_n 3, 1) := by decide +kernel
theorem dX10_heard_38 : decode cX10_heard 38 = .ok (.iload_n 3, 1) := by decide +kernel
theorem dX10_heard_39 : decode cX10_heard 39 = .ok (.iconst (-1), 1) := by decide +kernel
theorem dX10_heard_40 : decode cX10_heard 40 = .ok (.if_icmp .ne 8, 3) := by decide +kernel
theorem dX10_heard_43 : decode cX10_heard 43 = .ok (.bipush (-2), 2) := by decide +kernel
theorem dX10_heard_45 : decode cX10_heard 45 = .ok (.goto 4, 3) := by decide +kernel
theorem dX10_heard_48 : decode cX10_heard 48 = .ok (.iload_n 3, 1) := by decide +kernel
theorem dX10_heard_49 : decode cX10_heard 49 = .ok (.ireturn, 1) := by decide +kernel
theorem dX10_hush_0 : decode cX10_hush 0 = .ok (.aload_n 0, 1) := by decide +kernel
theorem dX10_hush_1 : decode cX10_hush 1 = .ok (.iconst 0, 1) := by decide +kernel
theorem dX10_hush_2 : decode cX10_hush 2 = .ok (.putfield 235, 3) := by decide +kernel
theorem dX10_hush_5 : decode cX10_hush 5 = .ok (.aload_n 0, 1) := by decide +kernel
theorem dX10_hush_6 : decode cX10_hush 6 = .ok (.iload_n 1, 1) := by decide +kernel
theorem dX10_hush_7 : decode cX10_hush 7 = .ok (.invokevirtual 527, 3) := by decide +kernel
theorem dX10_hush_10 : decode cX10_hush 10 = .ok (.ifCond .ne 7, 3) := by decide +kernel
theorem dX10_hush_13 : decode cX10_hush 13 = .ok (.ldc2_w 533, 3) := by decide +kernel
theorem dX10_hush_16 : decode cX10_hush 16 = .ok (.lreturn, 1) := by decide +kernel
theorem dX10_hush_17 : decode cX10_hush 17 = .ok (.aload_n 0, 1) := by decide +kernel
theorem dX10_hush_18 : decode cX10_hush 18 = .ok (.invokevirtual 515, 3) := by decide +kernel
theorem dX10_hush_21 : decode cX10_hush 21 = .ok (.lconst 0, 1) := by decide +kernel
theorem dX10_hush_22 : decode cX10_hush 22 = .ok (.lstore_n 2, 1) := by decide +kernel
theorem dX10_hush_23 : decode cX10_hush 23 = .ok (.iconst 0, 1) := by decide +kernel
theorem dX10_hush_24 : decode cX10_hush 24 = .ok (.istore 4, 2) := by decide +kernel
theorem dX10_hush_26 : decode cX10_hush 26 = .ok (.iload 4, 2) := by decide +kernel
theorem dX10_hush_28 : decode cX10_hush 28 = .ok (.bipush 48, 2) := by decide +kernel
theorem dX10_hush_30 : decode cX10_hush 30 = .ok (.if_icmp .ge 32, 3) := by decide +kernel
theorem dX10_hush_33 : decode cX10_hush 33 = .ok (.aload_n 0, 1) := by decide +kernel
theorem dX10_hush_34 : decode cX10_hush 34 = .ok (.getfield 165, 3) := by decide +kernel
theorem dX10_hush_37 : decode cX10_hush 37 = .ok (.bipush 48, 2) := by decide +kernel
theorem dX10_hush_39 : decode cX10_hush 39 = .ok (.iload_n 1, 1) := by decide +kernel
theorem dX10_hush_40 : decode cX10_hush 40 = .ok (.imul, 1) := by decide +kernel
theorem dX10_hush_41 : decode cX10_hush 41 = .ok (.iload 4, 2) := by decide +kernel
theorem dX10_hush_43 : decode cX10_hush 43 = .ok (.iadd, 1) := by decide +kernel
theorem dX10_hush_44 : decode cX10_hush 44 = .ok (.iaload, 1) := by decide +kernel
theorem dX10_hush_45 : decode cX10_hush 45 = .ok (.iconst (-1), 1) := by decide +kernel
theorem dX10_hush_46 : decode cX10_hush 46 = .ok (.if_icmp .ne 10, 3) := by decide +kernel
theorem dX10_hush_49 : decode cX10_hush 49 = .ok (.lload_n 2, 1) := by decide +kernel
theorem dX10_hush_50 : decode cX10_hush 50 = .ok (.lconst 1, 1) := by decide +kernel
theorem dX10_hush_51 : decode cX10_hush 51 = .ok (.iload 4, 2) := by decide +kernel
theorem dX10_hush_53 : decode cX10_hush 53 = .ok (.lshl, 1) := by decide +kernel
theorem dX10_hush_54 : decode cX10_hush 54 = .ok (.lor, 1) := by decide +kernel
theorem dX10_hush_55 : decode cX10_hush 55 = .ok (.lstore_n 2, 1) := by decide +kernel
theorem dX10_hush_56 : decode cX10_hush 56 = .ok (.iinc 4 1, 3) := by decide +kernel
theorem dX10_hush_59 : decode cX10_hush 59 = .ok (.goto (-33), 3) := by decide +kernel
theorem dX10_hush_62 : decode cX10_hush 62 = .ok (.lload_n 2, 1) := by decide +kernel
theorem dX10_hush_63 : decode cX10_hush 63 = .ok (.lreturn, 1) := by decide +kernel
theorem dX10_whose_0 : decode cX10_whose 0 = .ok (.aload_n 0, 1) := by decide +kernel
theorem dX10_whose_1 : decode cX10_whose 1 = .ok (.iconst 0, 1) := by decide +kernel
theorem dX10_whose_2 : decode cX10_whose 2 = .ok (.putfield 235, 3) := by decide +kernel
theorem dX10_whose_5 : decode cX10_whose 5 = .ok (.aload_n 0, 1) := by decide +kernel
theorem dX10_whose_6 : decode cX10_whose 6 = .ok (.iload_n 1, 1) := by decide +kernel
theorem dX10_whose_7 : decode cX10_whose 7 = .ok (.invokevirtual 527, 3) := by decide +kernel
theorem dX10_whose_10 : decode cX10_whose 10 = .ok (.ifCond .eq 10, 3) := by decide +kernel
theorem dX10_whose_13 : decode cX10_whose 13 = .ok (.iload_n 2, 1) := by decide +kernel
theorem dX10_whose_14 : decode cX10_whose 14 = .ok (.invokestatic 530, 3) := by decide +kernel
theorem dX10_whose_17 : decode cX10_whose 17 = .ok (.ifCond .ne 5, 3) := by decide +kernel
theorem dX10_whose_20 : decode cX10_whose 20 = .ok (.iconst (-1), 1) := by decide +kernel
theorem dX10_whose_21 : decode cX10_whose 21 = .ok (.ireturn, 1) := by decide +kernel
theorem dX10_whose_22 : decode cX10_whose 22 = .ok (.aload_n 0, 1) := by decide +kernel
theorem dX10_whose_23 : decode cX10_whose 23 = .ok (.invokevirtual 515, 3) := by decide +kernel
theorem dX10_whose_26 : decode cX10_whose 26 = .ok (.aload_n 0, 1) := by decide +kernel
theorem dX10_whose_27 : decode cX10_whose 27 = .ok (.getfield 180, 3) := by decide +kernel
theorem dX10_whose_30 : decode cX10_whose 30 = .ok (.bipush 48, 2) := by decide +kernel
theorem dX10_whose_32 : decode cX10_whose 32 = .ok (.iload_n 1, 1) := by decide +kernel
theorem dX10_whose_33 : decode cX10_whose 33 = .ok (.imul, 1) := by decide +kernel
theorem dX10_whose_34 : decode cX10_whose 34 = .ok (.iload_n 2, 1) := by decide +kernel
theorem dX10_whose_35 : decode cX10_whose 35 = .ok (.iadd, 1) := by decide +kernel
theorem dX10_whose_36 : decode cX10_whose 36 = .ok (.iaload, 1) := by decide +kernel
theorem dX10_whose_37 : decode cX10_whose 37 = .ok (.ireturn, 1) := by decide +kernel
theorem dX10_areBeside_0 : decode cX10_areBeside 0 = .ok (.iconst 0, 1) := by decide +kernel
theorem dX10_areBeside_1 : decode cX10_areBeside 1 = .ok (.istore_n 3, 1) := by decide +kernel
theorem dX10_areBeside_2 : decode cX10_areBeside 2 = .ok (.iload_n 3, 1) := by decide +kernel
theorem dX10_areBeside_3 : decode cX10_areBeside 3 = .ok (.aload_n 0, 1) := by decide +kernel
theorem dX10_areBeside_4 : decode cX10_areBeside 4 = .ok (.getfield 13, 3) := by decide +kernel
theorem dX10_areBeside_7 : decode cX10_areBeside 7 = .ok (.iconst 1, 1) := by decide +kernel
theorem dX10_areBeside_8 : decode cX10_areBeside 8 = .ok (.iaload, 1) := by decide +kernel
theorem dX10_areBeside_9 : decode cX10_areBeside 9 = .ok (.if_icmp .ge 64, 3) := by decide +kernel
theorem dX10_areBeside_12 : decode cX10_areBeside 12 = .ok (.aload_n 0, 1) := by decide +kernel
theorem dX10_areBeside_13 : decode cX10_areBeside 13 = .ok (.getfield 138, 3) := by decide +kernel
theorem dX10_areBeside_16 : decode cX10_areBeside 16 = .ok (.iconst 0, 1) := by decide +kernel
theorem dX10_areBeside_17 : decode cX10_areBeside 17 = .ok (.iaload, 1) := by decide +kernel
theorem dX10_areBeside_18 : decode cX10_areBeside 18 = .ok (.iload_n 3, 1) := by decide +kernel
theorem dX10_areBeside_19 : decode cX10_areBeside 19 = .ok (.ishr, 1) := by decide +kernel
theorem dX10_areBeside_20 : decode cX10_areBeside 20 = .ok (.iconst 1, 1) := by decide +kernel
theorem dX10_areBeside_21 : decode cX10_areBeside 21 = .ok (.iand, 1) := by decide +kernel
theorem dX10_areBeside_22 : decode cX10_areBeside 22 = .ok (.ifCond .ne 45, 3) := by decide +kernel
theorem dX10_areBeside_25 : decode cX10_areBeside 25 = .ok (.aload_n 0, 1) := by decide +kernel
theorem dX10_areBeside_26 : decode cX10_areBeside 26 = .ok (.getfield 19, 3) := by decide +kernel
theorem dX10_areBeside_29 : decode cX10_areBeside 29 = .ok (.iload_n 3, 1) := by decide +kernel
theorem dX10_areBeside_30 : decode cX10_areBeside 30 = .ok (.iaload, 1) := by decide +kernel
theorem dX10_areBeside_31 : decode cX10_areBeside 31 = .ok (.iload_n 1, 1) := by decide +kernel
theorem dX10_areBeside_32 : decode cX10_areBeside 32 = .ok (.if_icmp .ne 13, 3) := by decide +kernel
theorem dX10_areBeside_35 : decode cX10_areBeside 35 = .ok (.aload_n 0, 1) := by decide +kernel
theorem dX10_areBeside_36 : decode cX10_areBeside 36 = .ok (.getfield 22, 3) := by decide +kernel
theorem dX10_areBeside_39 : decode cX10_areBeside 39 = .ok (.iload_n 3, 1) := by decide +kernel
theorem dX10_areBeside_40 : decode cX10_areBeside 40 = .ok (.iaload, 1) := by decide +kernel
theorem dX10_areBeside_41 : decode cX10_areBeside 41 = .ok (.iload_n 2, 1) := by decide +kernel
theorem dX10_areBeside_42 : decode cX10_areBeside 42 = .ok (.if_icmp .eq 23, 3) := by decide +kernel
theorem dX10_areBeside_45 : decode cX10_areBeside 45 = .ok (.aload_n 0, 1) := by decide +kernel
theorem dX10_areBeside_46 : decode cX10_areBeside 46 = .ok (.getfield 19, 3) := by decide +kernel
theorem dX10_areBeside_49 : decode cX10_areBeside 49 = .ok (.iload_n 3, 1) := by decide +kernel
theorem dX10_areBeside_50 : decode cX10_areBeside 50 = .ok (.iaload, 1) := by decide +kernel
theorem dX10_areBeside_51 : decode cX10_areBeside 51 = .ok (.iload_n 2, 1) := by decide +kernel
theorem dX10_areBeside_52 : decode cX10_areBeside 52 = .ok (.if_icmp .ne 15, 3) := by decide +kernel
theorem dX10_areBeside_55 : decode cX10_areBeside 55 = .ok (.aload_n 0, 1) := by decide +kernel
theorem dX10_areBeside_56 : decode cX10_areBeside 56 = .ok (.getfield 22, 3) := by decide +kernel
theorem dX10_areBeside_59 : decode cX10_areBeside 59 = .ok (.iload_n 3, 1) := by decide +kernel
theorem dX10_areBeside_60 : decode cX10_areBeside 60 = .ok (.iaload, 1) := by decide +kernel
theorem dX10_areBeside_61 : decode cX10_areBeside 61 = .ok (.iload_n 1, 1) := by decide +kernel
theorem dX10_areBeside_62 : decode cX10_areBeside 62 = .ok (.if_icmp .ne 5, 3) := by decide +kernel
theorem dX10_areBeside_65 : decode cX10_areBeside 65 = .ok (.iconst 1, 1) := by decide +kernel
theorem dX10_areBeside_66 : decode cX10_areBeside 66 = .ok (.ireturn, 1) := by decide +kernel
theorem dX10_areBeside_67 : decode cX10_areBeside 67 = .ok (.iinc 3 1, 3) := by decide +kernel
theorem dX10_areBeside_70 : decode cX10_areBeside 70 = .ok (.goto (-68), 3) := by decide +kernel
theorem dX10_areBeside_73 : decode cX10_areBeside 73 = .ok (.iconst 0, 1) := by decide +kernel
theorem dX10_areBeside_74 : decode cX10_areBeside 74 = .ok (.ireturn, 1) := by decide +kernel
theorem dX10_doTouch_0 : decode cX10_doTouch 0 = .ok (.aload_n 0, 1) := by decide +kernel
theorem dX10_doTouch_1 : decode cX10_doTouch 1 = .ok (.getfield 186, 3) := by decide +kernel
theorem dX10_doTouch_4 : decode cX10_doTouch 4 = .ok (.iload_n 1, 1) := by decide +kernel
theorem dX10_doTouch_5 : decode cX10_doTouch 5 = .ok (.iaload, 1) := by decide +kernel
theorem dX10_doTouch_6 : decode cX10_doTouch 6 = .ok (.aload_n 0, 1) := by decide +kernel
theorem dX10_doTouch_7 : decode cX10_doTouch 7 = .ok (.getfield 189, 3) := by decide +kernel
theorem dX10_doTouch_10 : decode cX10_doTouch 10 = .ok (.iload_n 2, 1) := by decide +kernel
theorem dX10_doTouch_11 : decode cX10_doTouch 11 = .ok (.iaload, 1) := by decide +kernel
theorem dX10_doTouch_12 : decode cX10_doTouch 12 = .ok (.if_icmp .gt 41, 3) := by decide +kernel
theorem dX10_doTouch_15 : decode cX10_doTouch 15 = .ok (.aload_n 0, 1) := by decide +kernel
theorem dX10_doTouch_16 : decode cX10_doTouch 16 = .ok (.getfield 186, 3) := by decide +kernel
theorem dX10_doTouch_19 : decode cX10_doTouch 19 = .ok (.iload_n 2, 1) := by decide +kernel
theorem dX10_doTouch_20 : decode cX10_doTouch 20 = .ok (.iaload, 1) := by decide +kernel
theorem dX10_doTouch_21 : decode cX10_doTouch 21 = .ok (.aload_n 0, 1) := by decide +kernel
theorem dX10_doTouch_22 : decode cX10_doTouch 22 = .ok (.getfield 189, 3) := by decide +kernel
theorem dX10_doTouch_25 : decode cX10_doTouch 25 = .ok (.iload_n 1, 1) := by decide +kernel
theorem dX10_doTouch_26 : decode cX10_doTouch 26 = .ok (.iaload, 1) := by decide +kernel
theorem dX10_doTouch_27 : decode cX10_doTouch 27 = .ok (.if_icmp .gt 26, 3) := by decide +kernel
theorem dX10_doTouch_30 : decode cX10_doTouch 30 = .ok (.aload_n 0, 1) := by decide +kernel
theorem dX10_doTouch_31 : decode cX10_doTouch 31 = .ok (.aload_n 0, 1) := by decide +kernel
theorem dX10_doTouch_32 : decode cX10_doTouch 32 = .ok (.getfield 183, 3) := by decide +kernel
theorem dX10_doTouch_35 : decode cX10_doTouch 35 = .ok (.iload_n 1, 1) := by decide +kernel
theorem dX10_doTouch_36 : decode cX10_doTouch 36 = .ok (.iaload, 1) := by decide +kernel
theorem dX10_doTouch_37 : decode cX10_doTouch 37 = .ok (.aload_n 0, 1) := by decide +kernel
theorem dX10_doTouch_38 : decode cX10_doTouch 38 = .ok (.getfield 183, 3) := by decide +kernel
theorem dX10_doTouch_41 : decode cX10_doTouch 41 = .ok (.iload_n 2, 1) := by decide +kernel
theorem dX10_doTouch_42 : decode cX10_doTouch 42 = .ok (.iaload, 1) := by decide +kernel
theorem dX10_doTouch_43 : decode cX10_doTouch 43 = .ok (.invokevirtual 535, 3) := by decide +kernel
theorem dX10_doTouch_46 : decode cX10_doTouch 46 = .ok (.ifCond .eq 7, 3) := by decide +kernel
theorem dX10_doTouch_49 : decode cX10_doTouch 49 = .ok (.iconst 1, 1) := by decide +kernel
theorem dX10_doTouch_50 : decode cX10_doTouch 50 = .ok (.goto 4, 3) := by decide +kernel
theorem dX10_doTouch_53 : decode cX10_doTouch 53 = .ok (.iconst 0, 1) := by decide +kernel
theorem dX10_doTouch_54 : decode cX10_doTouch 54 = .ok (.ireturn, 1) := by decide +kernel
theorem dX10_layPieces_0 : decode cX10_layPieces 0 = .ok (.aload_n 0, 1) := by decide +kernel
theorem dX10_layPieces_1 : decode cX10_layPieces 1 = .ok (.invokevirtual 515, 3) := by decide +kernel
theorem dX10_layPieces_4 : decode cX10_layPieces 4 = .ok (.aload_n 0, 1) := by decide +kernel
theorem dX10_layPieces_5 : decode cX10_layPieces 5 = .ok (.iconst 0, 1) := by decide +kernel
theorem dX10_layPieces_6 : decode cX10_layPieces 6 = .ok (.putfield 539, 3) := by decide +kernel
theorem dX10_layPieces_9 : decode cX10_layPieces 9 = .ok (.iconst 0, 1) := by decide +kernel
theorem dX10_layPieces_10 : decode cX10_layPieces 10 = .ok (.istore_n 1, 1) := by decide +kernel
theorem dX10_layPieces_11 : decode cX10_layPieces 11 = .ok (.iload_n 1, 1) := by decide +kernel
theorem dX10_layPieces_12 : decode cX10_layPieces 12 = .ok (.aload_n 0, 1) := by decide +kernel
theorem dX10_layPieces_13 : decode cX10_layPieces 13 = .ok (.getfield 13, 3) := by decide +kernel
theorem dX10_layPieces_16 : decode cX10_layPieces 16 = .ok (.iconst 0, 1) := by decide +kernel
theorem dX10_layPieces_17 : decode cX10_layPieces 17 = .ok (.iaload, 1) := by decide +kernel
theorem dX10_layPieces_18 : decode cX10_layPieces 18 = .ok (.if_icmp .ge 114, 3) := by decide +kernel
theorem dX10_layPieces_21 : decode cX10_layPieces 21 = .ok (.iconst 0, 1) := by decide +kernel
theorem dX10_layPieces_22 : decode cX10_layPieces 22 = .ok (.istore_n 2, 1) := by decide +kernel
theorem dX10_layPieces_23 : decode cX10_layPieces 23 = .ok (.iload_n 2, 1) := by decide +kernel
theorem dX10_layPieces_24 : decode cX10_layPieces 24 = .ok (.bipush 48, 2) := by decide +kernel
theorem dX10_layPieces_26 : decode cX10_layPieces 26 = .ok (.if_icmp .ge 100, 3) := by decide +kernel
theorem dX10_layPieces_29 : decode cX10_layPieces 29 = .ok (.aload_n 0, 1) := by decide +kernel
theorem dX10_layPieces_30 : decode cX10_layPieces 30 = .ok (.getfield 165, 3) := by decide +kernel
theorem dX10_layPieces_33 : decode cX10_layPieces 33 = .ok (.bipush 48, 2) := by decide +kernel
theorem dX10_layPieces_35 : decode cX10_layPieces 35 = .ok (.iload_n 1, 1) := by decide +kernel
theorem dX10_layPieces_36 : decode cX10_layPieces 36 = .ok (.imul, 1) := by decide +kernel
theorem dX10_layPieces_37 : decode cX10_layPieces 37 = .ok (.iload_n 2, 1) := by decide +kernel
theorem dX10_layPieces_38 : decode cX10_layPieces 38 = .ok (.iadd, 1) := by decide +kernel
theorem dX10_layPieces_39 : decode cX10_layPieces 39 = .ok (.iaload, 1) := by decide +kernel
theorem dX10_layPieces_40 : decode cX10_layPieces 40 = .ok (.iconst (-1), 1) := by decide +kernel
theorem dX10_layPieces_41 : decode cX10_layPieces 41 = .ok (.if_icmp .eq 6, 3) := by decide +kernel
theorem dX10_layPieces_44 : decode cX10_layPieces 44 = .ok (.goto 76, 3) := by decide +kernel
theorem dX10_layPieces_47 : decode cX10_layPieces 47 = .ok (.iload_n 2, 1) := by decide +kernel
theorem dX10_layPieces_48 : decode cX10_layPieces 48 = .ok (.ifCond .eq 20, 3) := by decide +kernel
theorem dX10_layPieces_51 : decode cX10_layPieces 51 = .ok (.aload_n 0, 1) := by decide +kernel
theorem dX10_layPieces_52 : decode cX10_layPieces 52 = .ok (.getfield 165, 3) := by decide +kernel
theorem dX10_layPieces_55 : decode cX10_layPieces 55 = .ok (.bipush 48, 2) := by decide +kernel
theorem dX10_layPieces_57 : decode cX10_layPieces 57 = .ok (.iload_n 1, 1) := by decide +kernel
theorem dX10_layPieces_58 : decode cX10_layPieces 58 = .ok (.imul, 1) := by decide +kernel
theorem dX10_layPieces_59 : decode cX10_layPieces 59 = .ok (.iload_n 2, 1) := by decide +kernel
theorem dX10_layPieces_60 : decode cX10_layPieces 60 = .ok (.iadd, 1) := by decide +kernel
theorem dX10_layPieces_61 : decode cX10_layPieces 61 = .ok (.iconst 1, 1) := by decide +kernel
theorem dX10_layPieces_62 : decode cX10_layPieces 62 = .ok (.isub, 1) := by decide +kernel
theorem dX10_layPieces_63 : decode cX10_layPieces 63 = .ok (.iaload, 1) := by decide +kernel
theorem dX10_layPieces_64 : decode cX10_layPieces 64 = .ok (.iconst (-1), 1) := by decide +kernel
theorem dX10_layPieces_65 : decode cX10_layPieces 65 = .ok (.if_icmp .eq 7, 3) := by decide +kernel
theorem dX10_layPieces_68 : decode cX10_layPieces 68 = .ok (.iconst 1, 1) := by decide +kernel
theorem dX10_layPieces_69 : decode cX10_layPieces 69 = .ok (.goto 4, 3) := by decide +kernel
theorem dX10_layPieces_72 : decode cX10_layPieces 72 = .ok (.iconst 0, 1) := by decide +kernel
theorem dX10_layPieces_73 : decode cX10_layPieces 73 = .ok (.istore_n 3, 1) := by decide +kernel
theorem dX10_layPieces_74 : decode cX10_layPieces 74 = .ok (.iload_n 3, 1) := by decide +kernel
theorem dX10_layPieces_75 : decode cX10_layPieces 75 = .ok (.ifCond .eq 33, 3) := by decide +kernel
theorem dX10_layPieces_78 : decode cX10_layPieces 78 = .ok (.aload_n 0, 1) := by decide +kernel
theorem dX10_layPieces_79 : decode cX10_layPieces 79 = .ok (.getfield 183, 3) := by decide +kernel
theorem dX10_layPieces_82 : decode cX10_layPieces 82 = .ok (.aload_n 0, 1) := by decide +kernel
theorem dX10_layPieces_83 : decode cX10_layPieces 83 = .ok (.getfield 539, 3) := by decide +kernel
theorem dX10_layPieces_86 : decode cX10_layPieces 86 = .ok (.iload_n 1, 1) := by decide +kernel
theorem dX10_layPieces_87 : decode cX10_layPieces 87 = .ok (.iastore, 1) := by decide +kernel
theorem dX10_layPieces_88 : decode cX10_layPieces 88 = .ok (.aload_n 0, 1) := by decide +kernel
theorem dX10_layPieces_89 : decode cX10_layPieces 89 = .ok (.getfield 186, 3) := by decide +kernel
theorem dX10_layPieces_92 : decode cX10_layPieces 92 = .ok (.aload_n 0, 1) := by decide +kernel
theorem dX10_layPieces_93 : decode cX10_layPieces 93 = .ok (.getfield 539, 3) := by decide +kernel
theorem dX10_layPieces_96 : decode cX10_layPieces 96 = .ok (.iload_n 2, 1) := by decide +kernel
theorem dX10_layPieces_97 : decode cX10_layPieces 97 = .ok (.iastore, 1) := by decide +kernel
theorem dX10_layPieces_98 : decode cX10_layPieces 98 = .ok (.aload_n 0, 1) := by decide +kernel
theorem dX10_layPieces_99 : decode cX10_layPieces 99 = .ok (.dup, 1) := by decide +kernel
theorem dX10_layPieces_100 : decode cX10_layPieces 100 = .ok (.getfield 539, 3) := by decide +kernel
theorem dX10_layPieces_103 : decode cX10_layPieces 103 = .ok (.iconst 1, 1) := by decide +kernel
theorem dX10_layPieces_104 : decode cX10_layPieces 104 = .ok (.iadd, 1) := by decide +kernel
theorem dX10_layPieces_105 : decode cX10_layPieces 105 = .ok (.putfield 539, 3) := by decide +kernel
theorem dX10_layPieces_108 : decode cX10_layPieces 108 = .ok (.aload_n 0, 1) := by decide +kernel
theorem dX10_layPieces_109 : decode cX10_layPieces 109 = .ok (.getfield 189, 3) := by decide +kernel
theorem dX10_layPieces_112 : decode cX10_layPieces 112 = .ok (.aload_n 0, 1) := by decide +kernel
theorem dX10_layPieces_113 : decode cX10_layPieces 113 = .ok (.getfield 539, 3) := by decide +kernel
theorem dX10_layPieces_116 : decode cX10_layPieces 116 = .ok (.iconst 1, 1) := by decide +kernel
theorem dX10_layPieces_117 : decode cX10_layPieces 117 = .ok (.isub, 1) := by decide +kernel
theorem dX10_layPieces_118 : decode cX10_layPieces 118 = .ok (.iload_n 2, 1) := by decide +kernel
theorem dX10_layPieces_119 : decode cX10_layPieces 119 = .ok (.iastore, 1) := by decide +kernel
theorem dX10_layPieces_120 : decode cX10_layPieces 120 = .ok (.iinc 2 1, 3) := by decide +kernel
theorem dX10_layPieces_123 : decode cX10_layPieces 123 = .ok (.goto (-100), 3) := by decide +kernel
theorem dX10_layPieces_126 : decode cX10_layPieces 126 = .ok (.iinc 1 1, 3) := by decide +kernel
theorem dX10_layPieces_129 : decode cX10_layPieces 129 = .ok (.goto (-118), 3) := by decide +kernel
theorem dX10_layPieces_132 : decode cX10_layPieces 132 = .ok (.iconst 0, 1) := by decide +kernel
theorem dX10_layPieces_133 : decode cX10_layPieces 133 = .ok (.istore_n 1, 1) := by decide +kernel
theorem dX10_layPieces_134 : decode cX10_layPieces 134 = .ok (.iload_n 1, 1) := by decide +kernel
theorem dX10_layPieces_135 : decode cX10_layPieces 135 = .ok (.aload_n 0, 1) := by decide +kernel
theorem dX10_layPieces_136 : decode cX10_layPieces 136 = .ok (.getfield 539, 3) := by decide +kernel
theorem dX10_layPieces_139 : decode cX10_layPieces 139 = .ok (.if_icmp .ge 16, 3) := by decide +kernel
theorem dX10_layPieces_142 : decode cX10_layPieces 142 = .ok (.aload_n 0, 1) := by decide +kernel
theorem dX10_layPieces_143 : decode cX10_layPieces 143 = .ok (.getfield 192, 3) := by decide +kernel
theorem dX10_layPieces_146 : decode cX10_layPieces 146 = .ok (.iload_n 1, 1) := by decide +kernel
theorem dX10_layPieces_147 : decode cX10_layPieces 147 = .ok (.iconst (-1), 1) := by decide +kernel
theorem dX10_layPieces_148 : decode cX10_layPieces 148 = .ok (.iastore, 1) := by decide +kernel
theorem dX10_layPieces_149 : decode cX10_layPieces 149 = .ok (.iinc 1 1, 3) := by decide +kernel
theorem dX10_layPieces_152 : decode cX10_layPieces 152 = .ok (.goto (-18), 3) := by decide +kernel
theorem dX10_layPieces_155 : decode cX10_layPieces 155 = .ok (.aload_n 0, 1) := by decide +kernel
theorem dX10_layPieces_156 : decode cX10_layPieces 156 = .ok (.iconst 0, 1) := by decide +kernel
theorem dX10_layPieces_157 : decode cX10_layPieces 157 = .ok (.putfield 542, 3) := by decide +kernel
theorem dX10_layPieces_160 : decode cX10_layPieces 160 = .ok (.iconst 0, 1) := by decide +kernel
theorem dX10_layPieces_161 : decode cX10_layPieces 161 = .ok (.istore_n 1, 1) := by decide +kernel
theorem dX10_layPieces_162 : decode cX10_layPieces 162 = .ok (.iload_n 1, 1) := by decide +kernel
theorem dX10_layPieces_163 : decode cX10_layPieces 163 = .ok (.aload_n 0, 1) := by decide +kernel
theorem dX10_layPieces_164 : decode cX10_layPieces 164 = .ok (.getfield 539, 3) := by decide +kernel
theorem dX10_layPieces_167 : decode cX10_layPieces 167 = .ok (.if_icmp .ge 50, 3) := by decide +kernel
theorem dX10_layPieces_170 : decode cX10_layPieces 170 = .ok (.aload_n 0, 1) := by decide +kernel
theorem dX10_layPieces_171 : decode cX10_layPieces 171 = .ok (.getfield 192, 3) := by decide +kernel
theorem dX10_layPieces_174 : decode cX10_layPieces 174 = .ok (.iload_n 1, 1) := by decide +kernel
theorem dX10_layPieces_175 : decode cX10_layPieces 175 = .ok (.iaload, 1) := by decide +kernel
theorem dX10_layPieces_176 : decode cX10_layPieces 176 = .ok (.iconst (-1), 1) := by decide +kernel
theorem dX10_layPieces_177 : decode cX10_layPieces 177 = .ok (.if_icmp .eq 6, 3) := by decide +kernel
theorem dX10_layPieces_180 : decode cX10_layPieces 180 = .ok (.goto 31, 3) := by decide +kernel
theorem dX10_layPieces_183 : decode cX10_layPieces 183 = .ok (.aload_n 0, 1) := by decide +kernel
theorem dX10_layPieces_184 : decode cX10_layPieces 184 = .ok (.getfield 192, 3) := by decide +kernel
theorem dX10_layPieces_187 : decode cX10_layPieces 187 = .ok (.iload_n 1, 1) := by decide +kernel
theorem dX10_layPieces_188 : decode cX10_layPieces 188 = .ok (.aload_n 0, 1) := by decide +kernel
theorem dX10_layPieces_189 : decode cX10_layPieces 189 = .ok (.getfield 542, 3) := by decide +kernel
theorem dX10_layPieces_192 : decode cX10_layPieces 192 = .ok (.iastore, 1) := by decide +kernel
theorem dX10_layPieces_193 : decode cX10_layPieces 193 = .ok (.aload_n 0, 1) := by decide +kernel
theorem dX10_layPieces_194 : decode cX10_layPieces 194 = .ok (.aload_n 0, 1) := by decide +kernel
theorem dX10_layPieces_195 : decode cX10_layPieces 195 = .ok (.getfield 542, 3) := by decide +kernel
theorem dX10_layPieces_198 : decode cX10_layPieces 198 = .ok (.invokevirtual 545, 3) := by decide +kernel
theorem dX10_layPieces_201 : decode cX10_layPieces 201 = .ok (.aload_n 0, 1) := by decide +kernel
theorem dX10_layPieces_202 : decode cX10_layPieces 202 = .ok (.dup, 1) := by decide +kernel
theorem dX10_layPieces_203 : decode cX10_layPieces 203 = .ok (.getfield 542, 3) := by decide +kernel
theorem dX10_layPieces_206 : decode cX10_layPieces 206 = .ok (.iconst 1, 1) := by decide +kernel
theorem dX10_layPieces_207 : decode cX10_layPieces 207 = .ok (.iadd, 1) := by decide +kernel
theorem dX10_layPieces_208 : decode cX10_layPieces 208 = .ok (.putfield 542, 3) := by decide +kernel
theorem dX10_layPieces_211 : decode cX10_layPieces 211 = .ok (.iinc 1 1, 3) := by decide +kernel
theorem dX10_layPieces_214 : decode cX10_layPieces 214 = .ok (.goto (-52), 3) := by decide +kernel
theorem dX10_layPieces_217 : decode cX10_layPieces 217 = .ok (.return_, 1) := by decide +kernel
theorem dX10_spreads_0 : decode cX10_spreads 0 = .ok (.iconst 1, 1) := by decide +kernel
theorem dX10_spreads_1 : decode cX10_spreads 1 = .ok (.istore_n 2, 1) := by decide +kernel
theorem dX10_spreads_2 : decode cX10_spreads 2 = .ok (.iload_n 2, 1) := by decide +kernel
theorem dX10_spreads_3 : decode cX10_spreads 3 = .ok (.ifCond .eq 86, 3) := by decide +kernel
theorem dX10_spreads_6 : decode cX10_spreads 6 = .ok (.iconst 0, 1) := by decide +kernel
theorem dX10_spreads_7 : decode cX10_spreads 7 = .ok (.istore_n 2, 1) := by decide +kernel
theorem dX10_spreads_8 : decode cX10_spreads 8 = .ok (.iconst 0, 1) := by decide +kernel
theorem dX10_spreads_9 : decode cX10_spreads 9 = .ok (.istore_n 3, 1) := by decide +kernel
theorem dX10_spreads_10 : decode cX10_spreads 10 = .ok (.iload_n 3, 1) := by decide +kernel
theorem dX10_spreads_11 : decode cX10_spreads 11 = .ok (.aload_n 0, 1) := by decide +kernel
theorem dX10_spreads_12 : decode cX10_spreads 12 = .ok (.getfield 539, 3) := by decide +kernel
theorem dX10_spreads_15 : decode cX10_spreads 15 = .ok (.if_icmp .ge 71, 3) := by decide +kernel
theorem dX10_spreads_18 : decode cX10_spreads 18 = .ok (.iconst 0, 1) := by decide +kernel
theorem dX10_spreads_19 : decode cX10_spreads 19 = .ok (.istore 4, 2) := by decide +kernel
theorem dX10_spreads_21 : decode cX10_spreads 21 = .ok (.iload 4, 2) := by decide +kernel
theorem dX10_spreads_23 : decode cX10_spreads 23 = .ok (.aload_n 0, 1) := by decide +kernel
theorem dX10_spreads_24 : decode cX10_spreads 24 = .ok (.getfield 539, 3) := by decide +kernel
theorem dX10_spreads_27 : decode cX10_spreads 27 = .ok (.if_icmp .ge 53, 3) := by decide +kernel
theorem dX10_spreads_30 : decode cX10_spreads 30 = .ok (.aload_n 0, 1) := by decide +kernel
theorem dX10_spreads_31 : decode cX10_spreads 31 = .ok (.getfield 192, 3) := by decide +kernel
theorem dX10_spreads_34 : decode cX10_spreads 34 = .ok (.iload_n 3, 1) := by decide +kernel
theorem dX10_spreads_35 : decode cX10_spreads 35 = .ok (.iaload, 1) := by decide +kernel
theorem dX10_spreads_36 : decode cX10_spreads 36 = .ok (.iload_n 1, 1) := by decide +kernel
theorem dX10_spreads_37 : decode cX10_spreads 37 = .ok (.if_icmp .ne 43, 3) := by decide +kernel
theorem dX10_spreads_40 : decode cX10_spreads 40 = .ok (.aload_n 0, 1) := by decide +kernel
theorem dX10_spreads_41 : decode cX10_spreads 41 = .ok (.getfield 192, 3) := by decide +kernel
theorem dX10_spreads_44 : decode cX10_spreads 44 = .ok (.iload 4, 2) := by decide +kernel
theorem dX10_spreads_46 : decode cX10_spreads 46 = .ok (.iaload, 1) := by decide +kernel
theorem dX10_spreads_47 : decode cX10_spreads 47 = .ok (.iconst (-1), 1) := by decide +kernel
theorem dX10_spreads_48 : decode cX10_spreads 48 = .ok (.if_icmp .ne 26, 3) := by decide +kernel
theorem dX10_spreads_51 : decode cX10_spreads 51 = .ok (.aload_n 0, 1) := by decide +kernel
theorem dX10_spreads_52 : decode cX10_spreads 52 = .ok (.iload_n 3, 1) := by decide +kernel
theorem dX10_spreads_53 : decode cX10_spreads 53 = .ok (.iload 4, 2) := by decide +kernel
theorem dX10_spreads_55 : decode cX10_spreads 55 = .ok (.invokevirtual 548, 3) := by decide +kernel
theorem dX10_spreads_58 : decode cX10_spreads 58 = .ok (.ifCond .ne 6, 3) := by decide +kernel
theorem dX10_spreads_61 : decode cX10_spreads 61 = .ok (.goto 13, 3) := by decide +kernel
theorem dX10_spreads_64 : decode cX10_spreads 64 = .ok (.aload_n 0, 1) := by decide +kernel
theorem dX10_spreads_65 : decode cX10_spreads 65 = .ok (.getfield 192, 3) := by decide +kernel
theorem dX10_spreads_68 : decode cX10_spreads 68 = .ok (.iload 4, 2) := by decide +kernel
theorem dX10_spreads_70 : decode cX10_spreads 70 = .ok (.iload_n 1, 1) := by decide +kernel
theorem dX10_spreads_71 : decode cX10_spreads 71 = .ok (.iastore, 1) := by decide +kernel
theorem dX10_spreads_72 : decode cX10_spreads 72 = .ok (.iconst 1, 1) := by decide +kernel
theorem dX10_spreads_73 : decode cX10_spreads 73 = .ok (.istore_n 2, 1) := by decide +kernel
theorem dX10_spreads_74 : decode cX10_spreads 74 = .ok (.iinc 4 1, 3) := by decide +kernel
theorem dX10_spreads_77 : decode cX10_spreads 77 = .ok (.goto (-56), 3) := by decide +kernel
theorem dX10_spreads_80 : decode cX10_spreads 80 = .ok (.iinc 3 1, 3) := by decide +kernel
theorem dX10_spreads_83 : decode cX10_spreads 83 = .ok (.goto (-73), 3) := by decide +kernel
theorem dX10_spreads_86 : decode cX10_spreads 86 = .ok (.goto (-84), 3) := by decide +kernel
theorem dX10_spreads_89 : decode cX10_spreads 89 = .ok (.return_, 1) := by decide +kernel
theorem dX10_spans_0 : decode cX10_spans 0 = .ok (.aload_n 0, 1) := by decide +kernel
theorem dX10_spans_1 : decode cX10_spans 1 = .ok (.iconst 0, 1) := by decide +kernel
theorem dX10_spans_2 : decode cX10_spans 2 = .ok (.putfield 235, 3) := by decide +kernel
theorem dX10_spans_5 : decode cX10_spans 5 = .ok (.aload_n 0, 1) := by decide +kernel
theorem dX10_spans_6 : decode cX10_spans 6 = .ok (.invokevirtual 551, 3) := by decide +kernel
theorem dX10_spans_9 : decode cX10_spans 9 = .ok (.aload_n 0, 1) := by decide +kernel
theorem dX10_spans_10 : decode cX10_spans 10 = .ok (.getfield 539, 3) := by decide +kernel
theorem dX10_spans_13 : decode cX10_spans 13 = .ok (.ireturn, 1) := by decide +kernel
theorem dX10_span_0 : decode cX10_span 0 = .ok (.aload_n 0, 1) := by decide +kernel
theorem dX10_span_1 : decode cX10_span 1 = .ok (.iconst 0, 1) := by decide +kernel
theorem dX10_span_2 : decode cX10_span 2 = .ok (.putfield 235, 3) := by decide +kernel
theorem dX10_span_5 : decode cX10_span 5 = .ok (.iload_n 1, 1) := by decide +kernel
theorem dX10_span_6 : decode cX10_span 6 = .ok (.ifCond .lt 12, 3) := by decide +kernel
theorem dX10_span_9 : decode cX10_span 9 = .ok (.iload_n 2, 1) := by decide +kernel
theorem dX10_span_10 : decode cX10_span 10 = .ok (.ifCond .lt 8, 3) := by decide +kernel
theorem dX10_span_13 : decode cX10_span 13 = .ok (.iload_n 2, 1) := by decide +kernel
theorem dX10_span_14 : decode cX10_span 14 = .ok (.iconst 3, 1) := by decide +kernel
theorem dX10_span_15 : decode cX10_span 15 = .ok (.if_icmp .le 5, 3) := by decide +kernel
theorem dX10_span_18 : decode cX10_span 18 = .ok (.iconst (-1), 1) := by decide +kernel
theorem dX10_span_19 : decode cX10_span 19 = .ok (.ireturn, 1) := by decide +kernel
theorem dX10_span_20 : decode cX10_span 20 = .ok (.aload_n 0, 1) := by decide +kernel
theorem dX10_span_21 : decode cX10_span 21 = .ok (.invokevirtual 551, 3) := by decide +kernel
theorem dX10_span_24 : decode cX10_span 24 = .ok (.iload_n 1, 1) := by decide +kernel
theorem dX10_span_25 : decode cX10_span 25 = .ok (.aload_n 0, 1) := by decide +kernel
theorem dX10_span_26 : decode cX10_span 26 = .ok (.getfield 539, 3) := by decide +kernel
theorem dX10_span_29 : decode cX10_span 29 = .ok (.if_icmp .lt 6, 3) := by decide +kernel
theorem dX10_span_32 : decode cX10_span 32 = .ok (.bipush (-2), 2) := by decide +kernel
theorem dX10_span_34 : decode cX10_span 34 = .ok (.ireturn, 1) := by decide +kernel
theorem dX10_span_35 : decode cX10_span 35 = .ok (.iload_n 2, 1) := by decide +kernel
theorem dX10_span_36 : decode cX10_span 36 = .ok (.ifCond .ne 12, 3) := by decide +kernel
theorem dX10_span_39 : decode cX10_span 39 = .ok (.aload_n 0, 1) := by decide +kernel
theorem dX10_span_40 : decode cX10_span 40 = .ok (.getfield 183, 3) := by decide +kernel
theorem dX10_span_43 : decode cX10_span 43 = .ok (.iload_n 1, 1) := by decide +kernel
theorem dX10_span_44 : decode cX10_span 44 = .ok (.iaload, 1) := by decide +kernel
theorem dX10_span_45 : decode cX10_span 45 = .ok (.goto 37, 3) := by decide +kernel
theorem dX10_span_48 : decode cX10_span 48 = .ok (.iload_n 2, 1) := by decide +kernel
theorem dX10_span_49 : decode cX10_span 49 = .ok (.iconst 1, 1) := by decide +kernel
theorem dX10_span_50 : decode cX10_span 50 = .ok (.if_icmp .ne 12, 3) := by decide +kernel
theorem dX10_span_53 : decode cX10_span 53 = .ok (.aload_n 0, 1) := by decide +kernel
theorem dX10_span_54 : decode cX10_span 54 = .ok (.getfield 186, 3) := by decide +kernel
theorem dX10_span_57 : decode cX10_span 57 = .ok (.iload_n 1, 1) := by decide +kernel
theorem dX10_span_58 : decode cX10_span 58 = .ok (.iaload, 1) := by decide +kernel
theorem dX10_span_59 : decode cX10_span 59 = .ok (.goto 23, 3) := by decide +kernel
theorem dX10_span_62 : decode cX10_span 62 = .ok (.iload_n 2, 1) := by decide +kernel
theorem dX10_span_63 : decode cX10_span 63 = .ok (.iconst 2, 1) := by decide +kernel
theorem dX10_span_64 : decode cX10_span 64 = .ok (.if_icmp .ne 12, 3) := by decide +kernel
theorem dX10_span_67 : decode cX10_span 67 = .ok (.aload_n 0, 1) := by decide +kernel
theorem dX10_span_68 : decode cX10_span 68 = .ok (.getfield 189, 3) := by decide +kernel
theorem dX10_span_71 : decode cX10_span 71 = .ok (.iload_n 1, 1) := by decide +kernel
theorem dX10_span_72 : decode cX10_span 72 = .ok (.iaload, 1) := by decide +kernel
theorem dX10_span_73 : decode cX10_span 73 = .ok (.goto 9, 3) := by decide +kernel
theorem dX10_span_76 : decode cX10_span 76 = .ok (.aload_n 0, 1) := by decide +kernel
theorem dX10_span_77 : decode cX10_span 77 = .ok (.getfield 192, 3) := by decide +kernel
theorem dX10_span_80 : decode cX10_span 80 = .ok (.iload_n 1, 1) := by decide +kernel
theorem dX10_span_81 : decode cX10_span 81 = .ok (.iaload, 1) := by decide +kernel
theorem dX10_span_82 : decode cX10_span 82 = .ok (.ireturn, 1) := by decide +kernel
theorem dX10_pieces_0 : decode cX10_pieces 0 = .ok (.aload_n 0, 1) := by decide +kernel
theorem dX10_pieces_1 : decode cX10_pieces 1 = .ok (.iconst 0, 1) := by decide +kernel
theorem dX10_pieces_2 : decode cX10_pieces 2 = .ok (.putfield 235, 3) := by decide +kernel
theorem dX10_pieces_5 : decode cX10_pieces 5 = .ok (.aload_n 0, 1) := by decide +kernel
theorem dX10_pieces_6 : decode cX10_pieces 6 = .ok (.invokevirtual 551, 3) := by decide +kernel
theorem dX10_pieces_9 : decode cX10_pieces 9 = .ok (.aload_n 0, 1) := by decide +kernel
theorem dX10_pieces_10 : decode cX10_pieces 10 = .ok (.getfield 542, 3) := by decide +kernel
theorem dX10_pieces_13 : decode cX10_pieces 13 = .ok (.ireturn, 1) := by decide +kernel
theorem dX10_layIts_0 : decode cX10_layIts 0 = .ok (.aload_n 0, 1) := by decide +kernel
theorem dX10_layIts_1 : decode cX10_layIts 1 = .ok (.iconst 0, 1) := by decide +kernel
theorem dX10_layIts_2 : decode cX10_layIts 2 = .ok (.putfield 554, 3) := by decide +kernel
theorem dX10_layIts_5 : decode cX10_layIts 5 = .ok (.aload_n 0, 1) := by decide +kernel
theorem dX10_layIts_6 : decode cX10_layIts 6 = .ok (.bipush 48, 2) := by decide +kernel
theorem dX10_layIts_8 : decode cX10_layIts 8 = .ok (.putfield 557, 3) := by decide +kernel
theorem dX10_layIts_11 : decode cX10_layIts 11 = .ok (.aload_n 0, 1) := by decide +kernel
theorem dX10_layIts_12 : decode cX10_layIts 12 = .ok (.iconst 0, 1) := by decide +kernel
theorem dX10_layIts_13 : decode cX10_layIts 13 = .ok (.putfield 560, 3) := by decide +kernel
theorem dX10_layIts_16 : decode cX10_layIts 16 = .ok (.aload_n 0, 1) := by decide +kernel
theorem dX10_layIts_17 : decode cX10_layIts 17 = .ok (.iconst 0, 1) := by decide +kernel
theorem dX10_layIts_18 : decode cX10_layIts 18 = .ok (.putfield 563, 3) := by decide +kernel
theorem dX10_layIts_21 : decode cX10_layIts 21 = .ok (.iconst 0, 1) := by decide +kernel
theorem dX10_layIts_22 : decode cX10_layIts 22 = .ok (.istore_n 3, 1) := by decide +kernel
theorem dX10_layIts_23 : decode cX10_layIts 23 = .ok (.iconst 0, 1) := by decide +kernel
theorem dX10_layIts_24 : decode cX10_layIts 24 = .ok (.istore 4, 2) := by decide +kernel
theorem dX10_layIts_26 : decode cX10_layIts 26 = .ok (.iload 4, 2) := by decide +kernel
theorem dX10_layIts_28 : decode cX10_layIts 28 = .ok (.aload_n 0, 1) := by decide +kernel
theorem dX10_layIts_29 : decode cX10_layIts 29 = .ok (.getfield 539, 3) := by decide +kernel
theorem dX10_layIts_32 : decode cX10_layIts 32 = .ok (.if_icmp .ge 155, 3) := by decide +kernel
theorem dX10_layIts_35 : decode cX10_layIts 35 = .ok (.aload_n 0, 1) := by decide +kernel
theorem dX10_layIts_36 : decode cX10_layIts 36 = .ok (.getfield 192, 3) := by decide +kernel
theorem dX10_layIts_39 : decode cX10_layIts 39 = .ok (.iload 4, 2) := by decide +kernel
theorem dX10_layIts_41 : decode cX10_layIts 41 = .ok (.iaload, 1) := by decide +kernel
theorem dX10_layIts_42 : decode cX10_layIts 42 = .ok (.iload_n 1, 1) := by decide +kernel
theorem dX10_layIts_43 : decode cX10_layIts 43 = .ok (.if_icmp .eq 6, 3) := by decide +kernel
theorem dX10_layIts_46 : decode cX10_layIts 46 = .ok (.goto 135, 3) := by decide +kernel
theorem dX10_layIts_49 : decode cX10_layIts 49 = .ok (.aload_n 0, 1) := by decide +kernel
theorem dX10_layIts_50 : decode cX10_layIts 50 = .ok (.dup, 1) := by decide +kernel
theorem dX10_layIts_51 : decode cX10_layIts 51 = .ok (.getfield 563, 3) := by decide +kernel
theorem dX10_layIts_54 : decode cX10_layIts 54 = .ok (.iconst 1, 1) := by decide +kernel
theorem dX10_layIts_55 : decode cX10_layIts 55 = .ok (.iadd, 1) := by decide +kernel
theorem dX10_layIts_56 : decode cX10_layIts 56 = .ok (.putfield 563, 3) := by decide +kernel
theorem dX10_layIts_59 : decode cX10_layIts 59 = .ok (.aload_n 0, 1) := by decide +kernel
theorem dX10_layIts_60 : decode cX10_layIts 60 = .ok (.getfield 186, 3) := by decide +kernel
theorem dX10_layIts_63 : decode cX10_layIts 63 = .ok (.iload 4, 2) := by decide +kernel
theorem dX10_layIts_65 : decode cX10_layIts 65 = .ok (.iaload, 1) := by decide +kernel
theorem dX10_layIts_66 : decode cX10_layIts 66 = .ok (.istore 5, 2) := by decide +kernel
theorem dX10_layIts_68 : decode cX10_layIts 68 = .ok (.iload 5, 2) := by decide +kernel
theorem dX10_layIts_70 : decode cX10_layIts 70 = .ok (.aload_n 0, 1) := by decide +kernel
theorem dX10_layIts_71 : decode cX10_layIts 71 = .ok (.getfield 189, 3) := by decide +kernel
theorem dX10_layIts_74 : decode cX10_layIts 74 = .ok (.iload 4, 2) := by decide +kernel
theorem dX10_layIts_76 : decode cX10_layIts 76 = .ok (.iaload, 1) := by decide +kernel
theorem dX10_layIts_77 : decode cX10_layIts 77 = .ok (.if_icmp .gt 104, 3) := by decide +kernel
theorem dX10_layIts_80 : decode cX10_layIts 80 = .ok (.aload_n 0, 1) := by decide +kernel
theorem dX10_layIts_81 : decode cX10_layIts 81 = .ok (.getfield 180, 3) := by decide +kernel
theorem dX10_layIts_84 : decode cX10_layIts 84 = .ok (.bipush 48, 2) := by decide +kernel
theorem dX10_layIts_86 : decode cX10_layIts 86 = .ok (.aload_n 0, 1) := by decide +kernel
theorem dX10_layIts_87 : decode cX10_layIts 87 = .ok (.getfield 183, 3) := by decide +kernel
theorem dX10_layIts_90 : decode cX10_layIts 90 = .ok (.iload 4, 2) := by decide +kernel
theorem dX10_layIts_92 : decode cX10_layIts 92 = .ok (.iaload, 1) := by decide +kernel
theorem dX10_layIts_93 : decode cX10_layIts 93 = .ok (.imul, 1) := by decide +kernel
theorem dX10_layIts_94 : decode cX10_layIts 94 = .ok (.iload 5, 2) := by decide +kernel
theorem dX10_layIts_96 : decode cX10_layIts 96 = .ok (.iadd, 1) := by decide +kernel
theorem dX10_layIts_97 : decode cX10_layIts 97 = .ok (.iaload, 1) := by decide +kernel
theorem dX10_layIts_98 : decode cX10_layIts 98 = .ok (.istore 6, 2) := by decide +kernel
theorem dX10_layIts_100 : decode cX10_layIts 100 = .ok (.iload_n 2, 1) := by decide +kernel
theorem dX10_layIts_101 : decode cX10_layIts 101 = .ok (.iconst (-1), 1) := by decide +kernel
theorem dX10_layIts_102 : decode cX10_layIts 102 = .ok (.if_icmp .eq 20, 3) := by decide +kernel
theorem dX10_layIts_105 : decode cX10_layIts 105 = .ok (.iload 6, 2) := by decide +kernel
theorem dX10_layIts_107 : decode cX10_layIts 107 = .ok (.ifCond .lt 68, 3) := by decide +kernel
theorem dX10_layIts_110 : decode cX10_layIts 110 = .ok (.iload_n 2, 1) := by decide +kernel
theorem dX10_layIts_111 : decode cX10_layIts 111 = .ok (.iload 6, 2) := by decide +kernel
theorem dX10_layIts_113 : decode cX10_layIts 113 = .ok (.ishr, 1) := by decide +kernel
theorem dX10_layIts_114 : decode cX10_layIts 114 = .ok (.iconst 1, 1) := by decide +kernel
theorem dX10_layIts_115 : decode cX10_layIts 115 = .ok (.iand, 1) := by decide +kernel
theorem dX10_layIts_116 : decode cX10_layIts 116 = .ok (.ifCond .ne 6, 3) := by decide +kernel
theorem dX10_layIts_119 : decode cX10_layIts 119 = .ok (.goto 56, 3) := by decide +kernel
theorem dX10_layIts_122 : decode cX10_layIts 122 = .ok (.aload_n 0, 1) := by decide +kernel
theorem dX10_layIts_123 : decode cX10_layIts 123 = .ok (.dup, 1) := by decide +kernel
theorem dX10_layIts_124 : decode cX10_layIts 124 = .ok (.getfield 554, 3) := by decide +kernel
theorem dX10_layIts_127 : decode cX10_layIts 127 = .ok (.iconst 1, 1) := by decide +kernel
theorem dX10_layIts_128 : decode cX10_layIts 128 = .ok (.iadd, 1) := by decide +kernel
theorem dX10_layIts_129 : decode cX10_layIts 129 = .ok (.putfield 554, 3) := by decide +kernel
theorem dX10_layIts_132 : decode cX10_layIts 132 = .ok (.aload_n 0, 1) := by decide +kernel
theorem dX10_layIts_133 : decode cX10_layIts 133 = .ok (.aload_n 0, 1) := by decide +kernel
theorem dX10_layIts_134 : decode cX10_layIts 134 = .ok (.getfield 557, 3) := by decide +kernel
theorem dX10_layIts_137 : decode cX10_layIts 137 = .ok (.iload 5, 2) := by decide +kernel
theorem dX10_layIts_139 : decode cX10_layIts 139 = .ok (.invokestatic 474, 3) := by decide +kernel
theorem dX10_layIts_142 : decode cX10_layIts 142 = .ok (.putfield 557, 3) := by decide +kernel
theorem dX10_layIts_145 : decode cX10_layIts 145 = .ok (.iload_n 3, 1) := by decide +kernel
theorem dX10_layIts_146 : decode cX10_layIts 146 = .ok (.iconst 1, 1) := by decide +kernel
theorem dX10_layIts_147 : decode cX10_layIts 147 = .ok (.aload_n 0, 1) := by decide +kernel
theorem dX10_layIts_148 : decode cX10_layIts 148 = .ok (.getfield 183, 3) := by decide +kernel
theorem dX10_layIts_151 : decode cX10_layIts 151 = .ok (.iload 4, 2) := by decide +kernel
theorem dX10_layIts_153 : decode cX10_layIts 153 = .ok (.iaload, 1) := by decide +kernel
theorem dX10_layIts_154 : decode cX10_layIts 154 = .ok (.ishl, 1) := by decide +kernel
theorem dX10_layIts_155 : decode cX10_layIts 155 = .ok (.ior, 1) := by decide +kernel
theorem dX10_layIts_156 : decode cX10_layIts 156 = .ok (.istore_n 3, 1) := by decide +kernel
theorem dX10_layIts_157 : decode cX10_layIts 157 = .ok (.iload 6, 2) := by decide +kernel
theorem dX10_layIts_159 : decode cX10_layIts 159 = .ok (.ifCond .lt 16, 3) := by decide +kernel
theorem dX10_layIts_162 : decode cX10_layIts 162 = .ok (.aload_n 0, 1) := by decide +kernel
theorem dX10_layIts_163 : decode cX10_layIts 163 = .ok (.dup, 1) := by decide +kernel
theorem dX10_layIts_164 : decode cX10_layIts 164 = .ok (.getfield 560, 3) := by decide +kernel
theorem dX10_layIts_167 : decode cX10_layIts 167 = .ok (.iconst 1, 1) := by decide +kernel
theorem dX10_layIts_168 : decode cX10_layIts 168 = .ok (.iload 6, 2) := by decide +kernel
theorem dX10_layIts_170 : decode cX10_layIts 170 = .ok (.ishl, 1) := by decide +kernel
theorem dX10_layIts_171 : decode cX10_layIts 171 = .ok (.ior, 1) := by decide +kernel
theorem dX10_layIts_172 : decode cX10_layIts 172 = .ok (.putfield 560, 3) := by decide +kernel
theorem dX10_layIts_175 : decode cX10_layIts 175 = .ok (.iinc 5 1, 3) := by decide +kernel
theorem dX10_layIts_178 : decode cX10_layIts 178 = .ok (.goto (-110), 3) := by decide +kernel
theorem dX10_layIts_181 : decode cX10_layIts 181 = .ok (.iinc 4 1, 3) := by decide +kernel
theorem dX10_layIts_184 : decode cX10_layIts 184 = .ok (.goto (-158), 3) := by decide +kernel
theorem dX10_layIts_187 : decode cX10_layIts 187 = .ok (.aload_n 0, 1) := by decide +kernel
theorem dX10_layIts_188 : decode cX10_layIts 188 = .ok (.iload_n 3, 1) := by decide +kernel
theorem dX10_layIts_189 : decode cX10_layIts 189 = .ok (.invokestatic 566, 3) := by decide +kernel
theorem dX10_layIts_192 : decode cX10_layIts 192 = .ok (.putfield 569, 3) := by decide +kernel
theorem dX10_layIts_195 : decode cX10_layIts 195 = .ok (.return_, 1) := by decide +kernel
theorem dX10_bitsOf_0 : decode cX10_bitsOf 0 = .ok (.iconst 0, 1) := by decide +kernel
theorem dX10_bitsOf_1 : decode cX10_bitsOf 1 = .ok (.istore_n 1, 1) := by decide +kernel
theorem dX10_bitsOf_2 : decode cX10_bitsOf 2 = .ok (.iconst 0, 1) := by decide +kernel
theorem dX10_bitsOf_3 : decode cX10_bitsOf 3 = .ok (.istore_n 2, 1) := by decide +kernel
theorem dX10_bitsOf_4 : decode cX10_bitsOf 4 = .ok (.iload_n 2, 1) := by decide +kernel
theorem dX10_bitsOf_5 : decode cX10_bitsOf 5 = .ok (.bipush 10, 2) := by decide +kernel
theorem dX10_bitsOf_7 : decode cX10_bitsOf 7 = .ok (.if_icmp .ge 17, 3) := by decide +kernel
theorem dX10_bitsOf_10 : decode cX10_bitsOf 10 = .ok (.iload_n 1, 1) := by decide +kernel
theorem dX10_bitsOf_11 : decode cX10_bitsOf 11 = .ok (.iload_n 0, 1) := by decide +kernel
theorem dX10_bitsOf_12 : decode cX10_bitsOf 12 = .ok (.iload_n 2, 1) := by decide +kernel
theorem dX10_bitsOf_13 : decode cX10_bitsOf 13 = .ok (.ishr, 1) := by decide +kernel
theorem dX10_bitsOf_14 : decode cX10_bitsOf 14 = .ok (.iconst 1, 1) := by decide +kernel
theorem dX10_bitsOf_15 : decode cX10_bitsOf 15 = .ok (.iand, 1) := by decide +kernel
theorem dX10_bitsOf_16 : decode cX10_bitsOf 16 = .ok (.iadd, 1) := by decide +kernel
theorem dX10_bitsOf_17 : decode cX10_bitsOf 17 = .ok (.istore_n 1, 1) := by decide +kernel
theorem dX10_bitsOf_18 : decode cX10_bitsOf 18 = .ok (.iinc 2 1, 3) := by decide +kernel
theorem dX10_bitsOf_21 : decode cX10_bitsOf 21 = .ok (.goto (-17), 3) := by decide +kernel
theorem dX10_bitsOf_24 : decode cX10_bitsOf 24 = .ok (.iload_n 1, 1) := by decide +kernel
theorem dX10_bitsOf_25 : decode cX10_bitsOf 25 = .ok (.ireturn, 1) := by decide +kernel
theorem dX10_worthOfPiece_0 : decode cX10_worthOfPiece 0 = .ok (.aload_n 0, 1) := by decide +kernel
theorem dX10_worthOfPiece_1 : decode cX10_worthOfPiece 1 = .ok (.iload_n 1, 1) := by decide +kernel
theorem dX10_worthOfPiece_2 : decode cX10_worthOfPiece 2 = .ok (.iconst (-1), 1) := by decide +kernel
theorem dX10_worthOfPiece_3 : decode cX10_worthOfPiece 3 = .ok (.invokevirtual 572, 3) := by decide +kernel
theorem dX10_worthOfPiece_6 : decode cX10_worthOfPiece 6 = .ok (.aload_n 0, 1) := by decide +kernel
theorem dX10_worthOfPiece_7 : decode cX10_worthOfPiece 7 = .ok (.aload_n 0, 1) := by decide +kernel
theorem dX10_worthOfPiece_8 : decode cX10_worthOfPiece 8 = .ok (.getfield 554, 3) := by decide +kernel
theorem dX10_worthOfPiece_11 : decode cX10_worthOfPiece 11 = .ok (.aload_n 0, 1) := by decide +kernel
theorem dX10_worthOfPiece_12 : decode cX10_worthOfPiece 12 = .ok (.getfield 569, 3) := by decide +kernel
theorem dX10_worthOfPiece_15 : decode cX10_worthOfPiece 15 = .ok (.aload_n 0, 1) := by decide +kernel
theorem dX10_worthOfPiece_16 : decode cX10_worthOfPiece 16 = .ok (.getfield 560, 3) := by decide +kernel
theorem dX10_worthOfPiece_19 : decode cX10_worthOfPiece 19 = .ok (.invokestatic 566, 3) := by decide +kernel
theorem dX10_worthOfPiece_22 : decode cX10_worthOfPiece 22 = .ok (.aload_n 0, 1) := by decide +kernel
theorem dX10_worthOfPiece_23 : decode cX10_worthOfPiece 23 = .ok (.getfield 557, 3) := by decide +kernel
theorem dX10_worthOfPiece_26 : decode cX10_worthOfPiece 26 = .ok (.invokevirtual 575, 3) := by decide +kernel
theorem dX10_worthOfPiece_29 : decode cX10_worthOfPiece 29 = .ok (.ireturn, 1) := by decide +kernel
theorem dX10_worthOfSet_0 : decode cX10_worthOfSet 0 = .ok (.iload_n 2, 1) := by decide +kernel
theorem dX10_worthOfSet_1 : decode cX10_worthOfSet 1 = .ok (.ifCond .ne 5, 3) := by decide +kernel
theorem dX10_worthOfSet_4 : decode cX10_worthOfSet 4 = .ok (.iconst 0, 1) := by decide +kernel
theorem dX10_worthOfSet_5 : decode cX10_worthOfSet 5 = .ok (.ireturn, 1) := by decide +kernel
theorem dX10_worthOfSet_6 : decode cX10_worthOfSet 6 = .ok (.aload_n 0, 1) := by decide +kernel
theorem dX10_worthOfSet_7 : decode cX10_worthOfSet 7 = .ok (.iload_n 1, 1) := by decide +kernel
theorem dX10_worthOfSet_8 : decode cX10_worthOfSet 8 = .ok (.iload_n 2, 1) := by decide +kernel
theorem dX10_worthOfSet_9 : decode cX10_worthOfSet 9 = .ok (.invokevirtual 572, 3) := by decide +kernel
theorem dX10_worthOfSet_12 : decode cX10_worthOfSet 12 = .ok (.aload_n 0, 1) := by decide +kernel
theorem dX10_worthOfSet_13 : decode cX10_worthOfSet 13 = .ok (.aload_n 0, 1) := by decide +kernel
theorem dX10_worthOfSet_14 : decode cX10_worthOfSet 14 = .ok (.getfield 554, 3) := by decide +kernel
theorem dX10_worthOfSet_17 : decode cX10_worthOfSet 17 = .ok (.aload_n 0, 1) := by decide +kernel
theorem dX10_worthOfSet_18 : decode cX10_worthOfSet 18 = .ok (.getfield 569, 3) := by decide +kernel
theorem dX10_worthOfSet_21 : decode cX10_worthOfSet 21 = .ok (.iload_n 2, 1) := by decide +kernel
theorem dX10_worthOfSet_22 : decode cX10_worthOfSet 22 = .ok (.invokestatic 566, 3) := by decide +kernel
theorem dX10_worthOfSet_25 : decode cX10_worthOfSet 25 = .ok (.aload_n 0, 1) := by decide +kernel
theorem dX10_worthOfSet_26 : decode cX10_worthOfSet 26 = .ok (.getfield 557, 3) := by decide +kernel
theorem dX10_worthOfSet_29 : decode cX10_worthOfSet 29 = .ok (.invokevirtual 575, 3) := by decide +kernel
theorem dX10_worthOfSet_32 : decode cX10_worthOfSet 32 = .ok (.ireturn, 1) := by decide +kernel
theorem dX10_piece_0 : decode cX10_piece 0 = .ok (.aload_n 0, 1) := by decide +kernel
theorem dX10_piece_1 : decode cX10_piece 1 = .ok (.iconst 0, 1) := by decide +kernel
theorem dX10_piece_2 : decode cX10_piece 2 = .ok (.putfield 235, 3) := by decide +kernel
theorem dX10_piece_5 : decode cX10_piece 5 = .ok (.iload_n 1, 1) := by decide +kernel
theorem dX10_piece_6 : decode cX10_piece 6 = .ok (.ifCond .lt 12, 3) := by decide +kernel
theorem dX10_piece_9 : decode cX10_piece 9 = .ok (.iload_n 2, 1) := by decide +kernel
theorem dX10_piece_10 : decode cX10_piece 10 = .ok (.ifCond .lt 8, 3) := by decide +kernel
theorem dX10_piece_13 : decode cX10_piece 13 = .ok (.iload_n 2, 1) := by decide +kernel
theorem dX10_piece_14 : decode cX10_piece 14 = .ok (.iconst 5, 1) := by decide +kernel
theorem dX10_piece_15 : decode cX10_piece 15 = .ok (.if_icmp .le 5, 3) := by decide +kernel
theorem dX10_piece_18 : decode cX10_piece 18 = .ok (.iconst (-1), 1) := by decide +kernel
theorem dX10_piece_19 : decode cX10_piece 19 = .ok (.ireturn, 1) := by decide +kernel
theorem dX10_piece_20 : decode cX10_piece 20 = .ok (.aload_n 0, 1) := by decide +kernel
theorem dX10_piece_21 : decode cX10_piece 21 = .ok (.invokevirtual 551, 3) := by decide +kernel
theorem dX10_piece_24 : decode cX10_piece 24 = .ok (.iload_n 1, 1) := by decide +kernel
theorem dX10_piece_25 : decode cX10_piece 25 = .ok (.aload_n 0, 1) := by decide +kernel
theorem dX10_piece_26 : decode cX10_piece 26 = .ok (.getfield 542, 3) := by decide +kernel
theorem dX10_piece_29 : decode cX10_piece 29 = .ok (.if_icmp .lt 6, 3) := by decide +kernel
theorem dX10_piece_32 : decode cX10_piece 32 = .ok (.bipush (-2), 2) := by decide +kernel
theorem dX10_piece_34 : decode cX10_piece 34 = .ok (.ireturn, 1) := by decide +kernel
theorem dX10_piece_35 : decode cX10_piece 35 = .ok (.iload_n 2, 1) := by decide +kernel
theorem dX10_piece_36 : decode cX10_piece 36 = .ok (.iconst 3, 1) := by decide +kernel
theorem dX10_piece_37 : decode cX10_piece 37 = .ok (.if_icmp .ne 9, 3) := by decide +kernel
theorem dX10_piece_40 : decode cX10_piece 40 = .ok (.aload_n 0, 1) := by decide +kernel
theorem dX10_piece_41 : decode cX10_piece 41 = .ok (.iload_n 1, 1) := by decide +kernel
theorem dX10_piece_42 : decode cX10_piece 42 = .ok (.invokevirtual 579, 3) := by decide +kernel
theorem dX10_piece_45 : decode cX10_piece 45 = .ok (.ireturn, 1) := by decide +kernel
theorem dX10_piece_46 : decode cX10_piece 46 = .ok (.aload_n 0, 1) := by decide +kernel
theorem dX10_piece_47 : decode cX10_piece 47 = .ok (.iload_n 1, 1) := by decide +kernel
theorem dX10_piece_48 : decode cX10_piece 48 = .ok (.iconst (-1), 1) := by decide +kernel
theorem dX10_piece_49 : decode cX10_piece 49 = .ok (.invokevirtual 572, 3) := by decide +kernel
theorem dX10_piece_52 : decode cX10_piece 52 = .ok (.iload_n 2, 1) := by decide +kernel
theorem dX10_piece_53 : decode cX10_piece 53 = .ok (.ifCond .ne 10, 3) := by decide +kernel
theorem dX10_piece_56 : decode cX10_piece 56 = .ok (.aload_n 0, 1) := by decide +kernel
theorem dX10_piece_57 : decode cX10_piece 57 = .ok (.getfield 554, 3) := by decide +kernel
theorem dX10_piece_60 : decode cX10_piece 60 = .ok (.goto 43, 3) := by decide +kernel
theorem dX10_piece_63 : decode cX10_piece 63 = .ok (.iload_n 2, 1) := by decide +kernel
theorem dX10_piece_64 : decode cX10_piece 64 = .ok (.iconst 1, 1) := by decide +kernel
theorem dX10_piece_65 : decode cX10_piece 65 = .ok (.if_icmp .ne 10, 3) := by decide +kernel
theorem dX10_piece_68 : decode cX10_piece 68 = .ok (.aload_n 0, 1) := by decide +kernel
theorem dX10_piece_69 : decode cX10_piece 69 = .ok (.getfield 569, 3) := by decide +kernel
theorem dX10_piece_72 : decode cX10_piece 72 = .ok (.goto 31, 3) := by decide +kernel
theorem dX10_piece_75 : decode cX10_piece 75 = .ok (.iload_n 2, 1) := by decide +kernel
theorem dX10_piece_76 : decode cX10_piece 76 = .ok (.iconst 2, 1) := by decide +kernel
theorem dX10_piece_77 : decode cX10_piece 77 = .ok (.if_icmp .ne 10, 3) := by decide +kernel
theorem dX10_piece_80 : decode cX10_piece 80 = .ok (.aload_n 0, 1) := by decide +kernel
theorem dX10_piece_81 : decode cX10_piece 81 = .ok (.getfield 560, 3) := by decide +kernel
theorem dX10_piece_84 : decode cX10_piece 84 = .ok (.goto 19, 3) := by decide +kernel
theorem dX10_piece_87 : decode cX10_piece 87 = .ok (.iload_n 2, 1) := by decide +kernel
theorem dX10_piece_88 : decode cX10_piece 88 = .ok (.iconst 4, 1) := by decide +kernel
theorem dX10_piece_89 : decode cX10_piece 89 = .ok (.if_icmp .ne 10, 3) := by decide +kernel
theorem dX10_piece_92 : decode cX10_piece 92 = .ok (.aload_n 0, 1) := by decide +kernel
theorem dX10_piece_93 : decode cX10_piece 93 = .ok (.getfield 557, 3) := by decide +kernel
theorem dX10_piece_96 : decode cX10_piece 96 = .ok (.goto 7, 3) := by decide +kernel
theorem dX10_piece_99 : decode cX10_piece 99 = .ok (.aload_n 0, 1) := by decide +kernel
theorem dX10_piece_100 : decode cX10_piece 100 = .ok (.getfield 563, 3) := by decide +kernel
theorem dX10_piece_103 : decode cX10_piece 103 = .ok (.ireturn, 1) := by decide +kernel
theorem dX10_share_0 : decode cX10_share 0 = .ok (.aload_n 0, 1) := by decide +kernel
theorem dX10_share_1 : decode cX10_share 1 = .ok (.iconst 0, 1) := by decide +kernel
theorem dX10_share_2 : decode cX10_share 2 = .ok (.putfield 235, 3) := by decide +kernel
theorem dX10_share_5 : decode cX10_share 5 = .ok (.iload_n 1, 1) := by decide +kernel
theorem dX10_share_6 : decode cX10_share 6 = .ok (.ifCond .lt 11, 3) := by decide +kernel
theorem dX10_share_9 : decode cX10_share 9 = .ok (.aload_n 0, 1) := by decide +kernel
theorem dX10_share_10 : decode cX10_share 10 = .ok (.iload_n 2, 1) := by decide +kernel
theorem dX10_share_11 : decode cX10_share 11 = .ok (.invokevirtual 512, 3) := by decide +kernel
theorem dX10_share_14 : decode cX10_share 14 = .ok (.ifCond .ne 5, 3) := by decide +kernel
theorem dX10_share_17 : decode cX10_share 17 = .ok (.iconst (-1), 1) := by decide +kernel
theorem dX10_share_18 : decode cX10_share 18 = .ok (.ireturn, 1) := by decide +kernel
theorem dX10_share_19 : decode cX10_share 19 = .ok (.aload_n 0, 1) := by decide +kernel
theorem dX10_share_20 : decode cX10_share 20 = .ok (.invokevirtual 551, 3) := by decide +kernel
theorem dX10_share_23 : decode cX10_share 23 = .ok (.iload_n 1, 1) := by decide +kernel
theorem dX10_share_24 : decode cX10_share 24 = .ok (.aload_n 0, 1) := by decide +kernel
theorem dX10_share_25 : decode cX10_share 25 = .ok (.getfield 542, 3) := by decide +kernel
theorem dX10_share_28 : decode cX10_share 28 = .ok (.if_icmp .lt 6, 3) := by decide +kernel
theorem dX10_share_31 : decode cX10_share 31 = .ok (.bipush (-2), 2) := by decide +kernel
theorem dX10_share_33 : decode cX10_share 33 = .ok (.ireturn, 1) := by decide +kernel
theorem dX10_share_34 : decode cX10_share 34 = .ok (.aload_n 0, 1) := by decide +kernel
theorem dX10_share_35 : decode cX10_share 35 = .ok (.iload_n 1, 1) := by decide +kernel
theorem dX10_share_36 : decode cX10_share 36 = .ok (.iconst 1, 1) := by decide +kernel
theorem dX10_share_37 : decode cX10_share 37 = .ok (.iload_n 2, 1) := by decide +kernel
theorem dX10_share_38 : decode cX10_share 38 = .ok (.ishl, 1) := by decide +kernel
theorem dX10_share_39 : decode cX10_share 39 = .ok (.invokevirtual 572, 3) := by decide +kernel
theorem dX10_share_42 : decode cX10_share 42 = .ok (.aload_n 0, 1) := by decide +kernel
theorem dX10_share_43 : decode cX10_share 43 = .ok (.getfield 554, 3) := by decide +kernel
theorem dX10_share_46 : decode cX10_share 46 = .ok (.ireturn, 1) := by decide +kernel
theorem dX10_factorial_0 : decode cX10_factorial 0 = .ok (.iload_n 0, 1) := by decide +kernel
theorem dX10_factorial_1 : decode cX10_factorial 1 = .ok (.iconst 2, 1) := by decide +kernel
theorem dX10_factorial_2 : decode cX10_factorial 2 = .ok (.if_icmp .ge 7, 3) := by decide +kernel
theorem dX10_factorial_5 : decode cX10_factorial 5 = .ok (.iconst 1, 1) := by decide +kernel
theorem dX10_factorial_6 : decode cX10_factorial 6 = .ok (.goto 24, 3) := by decide +kernel
theorem dX10_factorial_9 : decode cX10_factorial 9 = .ok (.iload_n 0, 1) := by decide +kernel
theorem dX10_factorial_10 : decode cX10_factorial 10 = .ok (.iconst 2, 1) := by decide +kernel
theorem dX10_factorial_11 : decode cX10_factorial 11 = .ok (.if_icmp .ne 7, 3) := by decide +kernel
theorem dX10_factorial_14 : decode cX10_factorial 14 = .ok (.iconst 2, 1) := by decide +kernel
theorem dX10_factorial_15 : decode cX10_factorial 15 = .ok (.goto 15, 3) := by decide +kernel
theorem dX10_factorial_18 : decode cX10_factorial 18 = .ok (.iload_n 0, 1) := by decide +kernel
theorem dX10_factorial_19 : decode cX10_factorial 19 = .ok (.iconst 3, 1) := by decide +kernel
theorem dX10_factorial_20 : decode cX10_factorial 20 = .ok (.if_icmp .ne 8, 3) := by decide +kernel
theorem dX10_factorial_23 : decode cX10_factorial 23 = .ok (.bipush 6, 2) := by decide +kernel
theorem dX10_factorial_25 : decode cX10_factorial 25 = .ok (.goto 5, 3) := by decide +kernel
theorem dX10_factorial_28 : decode cX10_factorial 28 = .ok (.bipush 24, 2) := by decide +kernel
theorem dX10_factorial_30 : decode cX10_factorial 30 = .ok (.ireturn, 1) := by decide +kernel
theorem dX10_part_0 : decode cX10_part 0 = .ok (.aload_n 0, 1) := by decide +kernel
theorem dX10_part_1 : decode cX10_part 1 = .ok (.iconst 0, 1) := by decide +kernel
theorem dX10_part_2 : decode cX10_part 2 = .ok (.putfield 235, 3) := by decide +kernel
theorem dX10_part_5 : decode cX10_part 5 = .ok (.iload_n 1, 1) := by decide +kernel
theorem dX10_part_6 : decode cX10_part 6 = .ok (.ifCond .lt 11, 3) := by decide +kernel
theorem dX10_part_9 : decode cX10_part 9 = .ok (.aload_n 0, 1) := by decide +kernel
theorem dX10_part_10 : decode cX10_part 10 = .ok (.iload_n 2, 1) := by decide +kernel
theorem dX10_part_11 : decode cX10_part 11 = .ok (.invokevirtual 512, 3) := by decide +kernel
theorem dX10_part_14 : decode cX10_part 14 = .ok (.ifCond .ne 5, 3) := by decide +kernel
theorem dX10_part_17 : decode cX10_part 17 = .ok (.iconst (-1), 1) := by decide +kernel
theorem dX10_part_18 : decode cX10_part 18 = .ok (.ireturn, 1) := by decide +kernel
theorem dX10_part_19 : decode cX10_part 19 = .ok (.aload_n 0, 1) := by decide +kernel
theorem dX10_part_20 : decode cX10_part 20 = .ok (.invokevirtual 551, 3) := by decide +kernel
theorem dX10_part_23 : decode cX10_part 23 = .ok (.iload_n 1, 1) := by decide +kernel
theorem dX10_part_24 : decode cX10_part 24 = .ok (.aload_n 0, 1) := by decide +kernel
theorem dX10_part_25 : decode cX10_part 25 = .ok (.getfield 542, 3) := by decide +kernel
theorem dX10_part_28 : decode cX10_part 28 = .ok (.if_icmp .lt 6, 3) := by decide +kernel
theorem dX10_part_31 : decode cX10_part 31 = .ok (.bipush (-2), 2) := by decide +kernel
theorem dX10_part_33 : decode cX10_part 33 = .ok (.ireturn, 1) := by decide +kernel
theorem dX10_part_34 : decode cX10_part 34 = .ok (.aload_n 0, 1) := by decide +kernel
theorem dX10_part_35 : decode cX10_part 35 = .ok (.iload_n 1, 1) := by decide +kernel
theorem dX10_part_36 : decode cX10_part 36 = .ok (.iconst (-1), 1) := by decide +kernel
theorem dX10_part_37 : decode cX10_part 37 = .ok (.invokevirtual 572, 3) := by decide +kernel
theorem dX10_part_40 : decode cX10_part 40 = .ok (.aload_n 0, 1) := by decide +kernel
theorem dX10_part_41 : decode cX10_part 41 = .ok (.getfield 560, 3) := by decide +kernel
theorem dX10_part_44 : decode cX10_part 44 = .ok (.istore_n 3, 1) := by decide +kernel
theorem dX10_part_45 : decode cX10_part 45 = .ok (.iload_n 3, 1) := by decide +kernel
theorem dX10_part_46 : decode cX10_part 46 = .ok (.iload_n 2, 1) := by decide +kernel
theorem dX10_part_47 : decode cX10_part 47 = .ok (.ishr, 1) := by decide +kernel
theorem dX10_part_48 : decode cX10_part 48 = .ok (.iconst 1, 1) := by decide +kernel
theorem dX10_part_49 : decode cX10_part 49 = .ok (.iand, 1) := by decide +kernel
theorem dX10_part_50 : decode cX10_part 50 = .ok (.ifCond .ne 5, 3) := by decide +kernel
theorem dX10_part_53 : decode cX10_part 53 = .ok (.iconst 0, 1) := by decide +kernel
theorem dX10_part_54 : decode cX10_part 54 = .ok (.ireturn, 1) := by decide +kernel
theorem dX10_part_55 : decode cX10_part 55 = .ok (.iconst 0, 1) := by decide +kernel
theorem dX10_part_56 : decode cX10_part 56 = .ok (.istore 4, 2) := by decide +kernel
theorem dX10_part_58 : decode cX10_part 58 = .ok (.iconst 0, 1) := by decide +kernel
theorem dX10_part_59 : decode cX10_part 59 = .ok (.istore 5, 2) := by decide +kernel
theorem dX10_part_61 : decode cX10_part 61 = .ok (.iload 5, 2) := by decide +kernel
theorem dX10_part_63 : decode cX10_part 63 = .ok (.bipush 16, 2) := by decide +kernel
theorem dX10_part_65 : decode cX10_part 65 = .ok (.if_icmp .ge 84, 3) := by decide +kernel
theorem dX10_part_68 : decode cX10_part 68 = .ok (.iload 5, 2) := by decide +kernel
theorem dX10_part_70 : decode cX10_part 70 = .ok (.iload_n 3, 1) := by decide +kernel
theorem dX10_part_71 : decode cX10_part 71 = .ok (.iconst (-1), 1) := by decide +kernel
theorem dX10_part_72 : decode cX10_part 72 = .ok (.ixor, 1) := by decide +kernel
theorem dX10_part_73 : decode cX10_part 73 = .ok (.iand, 1) := by decide +kernel
theorem dX10_part_74 : decode cX10_part 74 = .ok (.ifCond .ne 69, 3) := by decide +kernel
theorem dX10_part_77 : decode cX10_part 77 = .ok (.iload 5, 2) := by decide +kernel
theorem dX10_part_79 : decode cX10_part 79 = .ok (.iload_n 2, 1) := by decide +kernel
theorem dX10_part_80 : decode cX10_part 80 = .ok (.ishr, 1) := by decide +kernel
theorem dX10_part_81 : decode cX10_part 81 = .ok (.iconst 1, 1) := by decide +kernel
theorem dX10_part_82 : decode cX10_part 82 = .ok (.iand, 1) := by decide +kernel
theorem dX10_part_83 : decode cX10_part 83 = .ok (.iconst 1, 1) := by decide +kernel
theorem dX10_part_84 : decode cX10_part 84 = .ok (.if_icmp .ne 6, 3) := by decide +kernel
theorem dX10_part_87 : decode cX10_part 87 = .ok (.goto 56, 3) := by decide +kernel
theorem dX10_part_90 : decode cX10_part 90 = .ok (.iload 5, 2) := by decide +kernel
theorem dX10_part_92 : decode cX10_part 92 = .ok (.invokestatic 566, 3) := by decide +kernel
theorem dX10_part_95 : decode cX10_part 95 = .ok (.invokestatic 582, 3) := by decide +kernel
theorem dX10_part_98 : decode cX10_part 98 = .ok (.iload_n 3, 1) := by decide +kernel
theorem dX10_part_99 : decode cX10_part 99 = .ok (.invokestatic 566, 3) := by decide +kernel
theorem dX10_part_102 : decode cX10_part 102 = .ok (.iload 5, 2) := by decide +kernel
theorem dX10_part_104 : decode cX10_part 104 = .ok (.invokestatic 566, 3) := by decide +kernel
theorem dX10_part_107 : decode cX10_part 107 = .ok (.isub, 1) := by decide +kernel
theorem dX10_part_108 : decode cX10_part 108 = .ok (.iconst 1, 1) := by decide +kernel
theorem dX10_part_109 : decode cX10_part 109 = .ok (.isub, 1) := by decide +kernel
theorem dX10_part_110 : decode cX10_part 110 = .ok (.invokestatic 582, 3) := by decide +kernel
theorem dX10_part_113 : decode cX10_part 113 = .ok (.imul, 1) := by decide +kernel
theorem dX10_part_114 : decode cX10_part 114 = .ok (.istore 6, 2) := by decide +kernel
theorem dX10_part_116 : decode cX10_part 116 = .ok (.iload 4, 2) := by decide +kernel
theorem dX10_part_118 : decode cX10_part 118 = .ok (.iload 6, 2) := by decide +kernel
theorem dX10_part_120 : decode cX10_part 120 = .ok (.aload_n 0, 1) := by decide +kernel
theorem dX10_part_121 : decode cX10_part 121 = .ok (.iload_n 1, 1) := by decide +kernel
theorem dX10_part_122 : decode cX10_part 122 = .ok (.iload 5, 2) := by decide +kernel
theorem dX10_part_124 : decode cX10_part 124 = .ok (.iconst 1, 1) := by decide +kernel
theorem dX10_part_125 : decode cX10_part 125 = .ok (.iload_n 2, 1) := by decide +kernel
theorem dX10_part_126 : decode cX10_part 126 = .ok (.ishl, 1) := by decide +kernel
theorem dX10_part_127 : decode cX10_part 127 = .ok (.ior, 1) := by decide +kernel
theorem dX10_part_128 : decode cX10_part 128 = .ok (.invokevirtual 585, 3) := by decide +kernel
theorem dX10_part_131 : decode cX10_part 131 = .ok (.aload_n 0, 1) := by decide +kernel
theorem dX10_part_132 : decode cX10_part 132 = .ok (.iload_n 1, 1) := by decide +kernel
theorem dX10_part_133 : decode cX10_part 133 = .ok (.iload 5, 2) := by decide +kernel
theorem dX10_part_135 : decode cX10_part 135 = .ok (.invokevirtual 585, 3) := by decide +kernel
theorem dX10_part_138 : decode cX10_part 138 = .ok (.isub, 1) := by decide +kernel
theorem dX10_part_139 : decode cX10_part 139 = .ok (.imul, 1) := by decide +kernel
theorem dX10_part_140 : decode cX10_part 140 = .ok (.iadd, 1) := by decide +kernel
theorem dX10_part_141 : decode cX10_part 141 = .ok (.istore 4, 2) := by decide +kernel
theorem dX10_part_143 : decode cX10_part 143 = .ok (.iinc 5 1, 3) := by decide +kernel
theorem dX10_part_146 : decode cX10_part 146 = .ok (.goto (-85), 3) := by decide +kernel
theorem dX10_part_149 : decode cX10_part 149 = .ok (.iload 4, 2) := by decide +kernel
theorem dX10_part_151 : decode cX10_part 151 = .ok (.ireturn, 1) := by decide +kernel
theorem dX10_leaves_0 : decode cX10_leaves 0 = .ok (.aload_n 0, 1) := by decide +kernel
theorem dX10_leaves_1 : decode cX10_leaves 1 = .ok (.iconst 0, 1) := by decide +kernel
theorem dX10_leaves_2 : decode cX10_leaves 2 = .ok (.putfield 235, 3) := by decide +kernel
theorem dX10_leaves_5 : decode cX10_leaves 5 = .ok (.iload_n 1, 1) := by decide +kernel
theorem dX10_leaves_6 : decode cX10_leaves 6 = .ok (.ifCond .ge 5, 3) := by decide +kernel
theorem dX10_leaves_9 : decode cX10_leaves 9 = .ok (.iconst (-1), 1) := by decide +kernel
theorem dX10_leaves_10 : decode cX10_leaves 10 = .ok (.ireturn, 1) := by decide +kernel
theorem dX10_leaves_11 : decode cX10_leaves 11 = .ok (.aload_n 0, 1) := by decide +kernel
theorem dX10_leaves_12 : decode cX10_leaves 12 = .ok (.invokevirtual 551, 3) := by decide +kernel
theorem dX10_leaves_15 : decode cX10_leaves 15 = .ok (.iload_n 1, 1) := by decide +kernel
theorem dX10_leaves_16 : decode cX10_leaves 16 = .ok (.aload_n 0, 1) := by decide +kernel
theorem dX10_leaves_17 : decode cX10_leaves 17 = .ok (.getfield 542, 3) := by decide +kernel
theorem dX10_leaves_20 : decode cX10_leaves 20 = .ok (.if_icmp .lt 6, 3) := by decide +kernel
theorem dX10_leaves_23 : decode cX10_leaves 23 = .ok (.bipush (-2), 2) := by decide +kernel
theorem dX10_leaves_25 : decode cX10_leaves 25 = .ok (.ireturn, 1) := by decide +kernel
theorem dX10_leaves_26 : decode cX10_leaves 26 = .ok (.aload_n 0, 1) := by decide +kernel
theorem dX10_leaves_27 : decode cX10_leaves 27 = .ok (.iload_n 1, 1) := by decide +kernel
theorem dX10_leaves_28 : decode cX10_leaves 28 = .ok (.invokevirtual 579, 3) := by decide +kernel
theorem dX10_leaves_31 : decode cX10_leaves 31 = .ok (.i2l, 1) := by decide +kernel
theorem dX10_leaves_32 : decode cX10_leaves 32 = .ok (.lstore_n 2, 1) := by decide +kernel
theorem dX10_leaves_33 : decode cX10_leaves 33 = .ok (.aload_n 0, 1) := by decide +kernel
theorem dX10_leaves_34 : decode cX10_leaves 34 = .ok (.getfield 560, 3) := by decide +kernel
theorem dX10_leaves_37 : decode cX10_leaves 37 = .ok (.istore 4, 2) := by decide +kernel
theorem dX10_leaves_39 : decode cX10_leaves 39 = .ok (.aload_n 0, 1) := by decide +kernel
theorem dX10_leaves_40 : decode cX10_leaves 40 = .ok (.iload_n 1, 1) := by decide +kernel
theorem dX10_leaves_41 : decode cX10_leaves 41 = .ok (.iload 4, 2) := by decide +kernel
theorem dX10_leaves_43 : decode cX10_leaves 43 = .ok (.invokevirtual 572, 3) := by decide +kernel
theorem dX10_leaves_46 : decode cX10_leaves 46 = .ok (.aload_n 0, 1) := by decide +kernel
theorem dX10_leaves_47 : decode cX10_leaves 47 = .ok (.getfield 554, 3) := by decide +kernel
theorem dX10_leaves_50 : decode cX10_leaves 50 = .ok (.i2l, 1) := by decide +kernel
theorem dX10_leaves_51 : decode cX10_leaves 51 = .ok (.lstore 5, 2) := by decide +kernel
theorem dX10_leaves_53 : decode cX10_leaves 53 = .ok (.iconst 1, 1) := by decide +kernel
theorem dX10_leaves_54 : decode cX10_leaves 54 = .ok (.istore 7, 2) := by decide +kernel
theorem dX10_leaves_56 : decode cX10_leaves 56 = .ok (.iload 7, 2) := by decide +kernel
theorem dX10_leaves_58 : decode cX10_leaves 58 = .ok (.bipush 16, 2) := by decide +kernel
theorem dX10_leaves_60 : decode cX10_leaves 60 = .ok (.if_icmp .ge 51, 3) := by decide +kernel
theorem dX10_leaves_63 : decode cX10_leaves 63 = .ok (.iload 7, 2) := by decide +kernel
theorem dX10_leaves_65 : decode cX10_leaves 65 = .ok (.iload 4, 2) := by decide +kernel
theorem dX10_leaves_67 : decode cX10_leaves 67 = .ok (.iconst (-1), 1) := by decide +kernel
theorem dX10_leaves_68 : decode cX10_leaves 68 = .ok (.ixor, 1) := by decide +kernel
theorem dX10_leaves_69 : decode cX10_leaves 69 = .ok (.iand, 1) := by decide +kernel
theorem dX10_leaves_70 : decode cX10_leaves 70 = .ok (.ifCond .eq 6, 3) := by decide +kernel
theorem dX10_leaves_73 : decode cX10_leaves 73 = .ok (.goto 32, 3) := by decide +kernel
theorem dX10_leaves_76 : decode cX10_leaves 76 = .ok (.aload_n 0, 1) := by decide +kernel
theorem dX10_leaves_77 : decode cX10_leaves 77 = .ok (.iload_n 1, 1) := by decide +kernel
theorem dX10_leaves_78 : decode cX10_leaves 78 = .ok (.iload 7, 2) := by decide +kernel
theorem dX10_leaves_80 : decode cX10_leaves 80 = .ok (.invokevirtual 585, 3) := by decide +kernel
theorem dX10_leaves_83 : decode cX10_leaves 83 = .ok (.i2l, 1) := by decide +kernel
theorem dX10_leaves_84 : decode cX10_leaves 84 = .ok (.lstore 8, 2) := by decide +kernel
theorem dX10_leaves_86 : decode cX10_leaves 86 = .ok (.lload 8, 2) := by decide +kernel
theorem dX10_leaves_88 : decode cX10_leaves 88 = .ok (.lload 5, 2) := by decide +kernel
theorem dX10_leaves_90 : decode cX10_leaves 90 = .ok (.lmul, 1) := by decide +kernel
theorem dX10_leaves_91 : decode cX10_leaves 91 = .ok (.lload_n 2, 1) := by decide +kernel
theorem dX10_leaves_92 : decode cX10_leaves 92 = .ok (.aload_n 0, 1) := by decide +kernel
theorem dX10_leaves_93 : decode cX10_leaves 93 = .ok (.getfield 554, 3) := by decide +kernel
theorem dX10_leaves_96 : decode cX10_leaves 96 = .ok (.i2l, 1) := by decide +kernel
