theorem dX5_readJoin_109 : decode cX5_readJoin 109 = .ok (.bipush 64, 2) := by decide +kernel
theorem dX5_readJoin_111 : decode cX5_readJoin 111 = .ok (.if_icmp .lt 9, 3) := by decide +kernel
theorem dX5_readJoin_114 : decode cX5_readJoin 114 = .ok (.aload_n 0, 1) := by decide +kernel
theorem dX5_readJoin_115 : decode cX5_readJoin 115 = .ok (.iconst 2, 1) := by decide +kernel
theorem dX5_readJoin_116 : decode cX5_readJoin 116 = .ok (.invokevirtual 210, 3) := by decide +kernel
theorem dX5_readJoin_119 : decode cX5_readJoin 119 = .ok (.ireturn, 1) := by decide +kernel
theorem dX5_readJoin_120 : decode cX5_readJoin 120 = .ok (.aload_n 0, 1) := by decide +kernel
theorem dX5_readJoin_121 : decode cX5_readJoin 121 = .ok (.dup, 1) := by decide +kernel
theorem dX5_readJoin_122 : decode cX5_readJoin 122 = .ok (.getfield 45, 3) := by decide +kernel
theorem dX5_readJoin_125 : decode cX5_readJoin 125 = .ok (.iconst 1, 1) := by decide +kernel
theorem dX5_readJoin_126 : decode cX5_readJoin 126 = .ok (.iadd, 1) := by decide +kernel
theorem dX5_readJoin_127 : decode cX5_readJoin 127 = .ok (.putfield 45, 3) := by decide +kernel
theorem dX5_readJoin_130 : decode cX5_readJoin 130 = .ok (.aload_n 0, 1) := by decide +kernel
theorem dX5_readJoin_131 : decode cX5_readJoin 131 = .ok (.iload_n 2, 1) := by decide +kernel
theorem dX5_readJoin_132 : decode cX5_readJoin 132 = .ok (.invokevirtual 214, 3) := by decide +kernel
theorem dX5_readJoin_135 : decode cX5_readJoin 135 = .ok (.ireturn, 1) := by decide +kernel
theorem dX5_joinSign_0 : decode cX5_joinSign 0 = .ok (.aload_n 0, 1) := by decide +kernel
theorem dX5_joinSign_1 : decode cX5_joinSign 1 = .ok (.getfield 12, 3) := by decide +kernel
theorem dX5_joinSign_4 : decode cX5_joinSign 4 = .ok (.bipush 15, 2) := by decide +kernel
theorem dX5_joinSign_6 : decode cX5_joinSign 6 = .ok (.invokevirtual 180, 3) := by decide +kernel
theorem dX5_joinSign_9 : decode cX5_joinSign 9 = .ok (.ifCond .eq 5, 3) := by decide +kernel
theorem dX5_joinSign_12 : decode cX5_joinSign 12 = .ok (.iconst 0, 1) := by decide +kernel
theorem dX5_joinSign_13 : decode cX5_joinSign 13 = .ok (.ireturn, 1) := by decide +kernel
theorem dX5_joinSign_14 : decode cX5_joinSign 14 = .ok (.aload_n 0, 1) := by decide +kernel
theorem dX5_joinSign_15 : decode cX5_joinSign 15 = .ok (.getfield 12, 3) := by decide +kernel
theorem dX5_joinSign_18 : decode cX5_joinSign 18 = .ok (.bipush 16, 2) := by decide +kernel
theorem dX5_joinSign_20 : decode cX5_joinSign 20 = .ok (.invokevirtual 180, 3) := by decide +kernel
theorem dX5_joinSign_23 : decode cX5_joinSign 23 = .ok (.ifCond .eq 5, 3) := by decide +kernel
theorem dX5_joinSign_26 : decode cX5_joinSign 26 = .ok (.iconst 1, 1) := by decide +kernel
theorem dX5_joinSign_27 : decode cX5_joinSign 27 = .ok (.ireturn, 1) := by decide +kernel
theorem dX5_joinSign_28 : decode cX5_joinSign 28 = .ok (.aload_n 0, 1) := by decide +kernel
theorem dX5_joinSign_29 : decode cX5_joinSign 29 = .ok (.getfield 12, 3) := by decide +kernel
theorem dX5_joinSign_32 : decode cX5_joinSign 32 = .ok (.getfield 54, 3) := by decide +kernel
theorem dX5_joinSign_35 : decode cX5_joinSign 35 = .ok (.iconst 5, 1) := by decide +kernel
theorem dX5_joinSign_36 : decode cX5_joinSign 36 = .ok (.if_icmp .ne 13, 3) := by decide +kernel
theorem dX5_joinSign_39 : decode cX5_joinSign 39 = .ok (.aload_n 0, 1) := by decide +kernel
theorem dX5_joinSign_40 : decode cX5_joinSign 40 = .ok (.getfield 12, 3) := by decide +kernel
theorem dX5_joinSign_43 : decode cX5_joinSign 43 = .ok (.getfield 77, 3) := by decide +kernel
theorem dX5_joinSign_46 : decode cX5_joinSign 46 = .ok (.goto 4, 3) := by decide +kernel
theorem dX5_joinSign_49 : decode cX5_joinSign 49 = .ok (.iconst (-1), 1) := by decide +kernel
theorem dX5_joinSign_50 : decode cX5_joinSign 50 = .ok (.lookupswitch 117 #[(42, 111), (43, 105), (45, 108), (47, 114), (60, 90), (61, 94), (62, 102), (256, 92), (257, 96), (258, 99)], 90) := by decide +kernel
theorem dX5_joinSign_140 : decode cX5_joinSign 140 = .ok (.iconst 3, 1) := by decide +kernel
theorem dX5_joinSign_141 : decode cX5_joinSign 141 = .ok (.ireturn, 1) := by decide +kernel
theorem dX5_joinSign_142 : decode cX5_joinSign 142 = .ok (.iconst 4, 1) := by decide +kernel
theorem dX5_joinSign_143 : decode cX5_joinSign 143 = .ok (.ireturn, 1) := by decide +kernel
theorem dX5_joinSign_144 : decode cX5_joinSign 144 = .ok (.iconst 5, 1) := by decide +kernel
theorem dX5_joinSign_145 : decode cX5_joinSign 145 = .ok (.ireturn, 1) := by decide +kernel
theorem dX5_joinSign_146 : decode cX5_joinSign 146 = .ok (.bipush 6, 2) := by decide +kernel
theorem dX5_joinSign_148 : decode cX5_joinSign 148 = .ok (.ireturn, 1) := by decide +kernel
theorem dX5_joinSign_149 : decode cX5_joinSign 149 = .ok (.bipush 7, 2) := by decide +kernel
theorem dX5_joinSign_151 : decode cX5_joinSign 151 = .ok (.ireturn, 1) := by decide +kernel
theorem dX5_joinSign_152 : decode cX5_joinSign 152 = .ok (.bipush 8, 2) := by decide +kernel
theorem dX5_joinSign_154 : decode cX5_joinSign 154 = .ok (.ireturn, 1) := by decide +kernel
theorem dX5_joinSign_155 : decode cX5_joinSign 155 = .ok (.bipush 9, 2) := by decide +kernel
theorem dX5_joinSign_157 : decode cX5_joinSign 157 = .ok (.ireturn, 1) := by decide +kernel
theorem dX5_joinSign_158 : decode cX5_joinSign 158 = .ok (.bipush 10, 2) := by decide +kernel
theorem dX5_joinSign_160 : decode cX5_joinSign 160 = .ok (.ireturn, 1) := by decide +kernel
theorem dX5_joinSign_161 : decode cX5_joinSign 161 = .ok (.bipush 11, 2) := by decide +kernel
theorem dX5_joinSign_163 : decode cX5_joinSign 163 = .ok (.ireturn, 1) := by decide +kernel
theorem dX5_joinSign_164 : decode cX5_joinSign 164 = .ok (.bipush 12, 2) := by decide +kernel
theorem dX5_joinSign_166 : decode cX5_joinSign 166 = .ok (.ireturn, 1) := by decide +kernel
theorem dX5_joinSign_167 : decode cX5_joinSign 167 = .ok (.iconst (-1), 1) := by decide +kernel
theorem dX5_joinSign_168 : decode cX5_joinSign 168 = .ok (.ireturn, 1) := by decide +kernel
theorem dX6_init_0 : decode cX6_init 0 = .ok (.aload_n 0, 1) := by decide +kernel
theorem dX6_init_1 : decode cX6_init 1 = .ok (.invokespecial 3, 3) := by decide +kernel
theorem dX6_init_4 : decode cX6_init 4 = .ok (.aload_n 0, 1) := by decide +kernel
theorem dX6_init_5 : decode cX6_init 5 = .ok (.iload_n 1, 1) := by decide +kernel
theorem dX6_init_6 : decode cX6_init 6 = .ok (.putfield 9, 3) := by decide +kernel
theorem dX6_init_9 : decode cX6_init 9 = .ok (.aload_n 0, 1) := by decide +kernel
theorem dX6_init_10 : decode cX6_init 10 = .ok (.iload_n 2, 1) := by decide +kernel
theorem dX6_init_11 : decode cX6_init 11 = .ok (.putfield 15, 3) := by decide +kernel
theorem dX6_init_14 : decode cX6_init 14 = .ok (.aload_n 0, 1) := by decide +kernel
theorem dX6_init_15 : decode cX6_init 15 = .ok (.iload_n 1, 1) := by decide +kernel
theorem dX6_init_16 : decode cX6_init 16 = .ok (.iload_n 2, 1) := by decide +kernel
theorem dX6_init_17 : decode cX6_init 17 = .ok (.imul, 1) := by decide +kernel
theorem dX6_init_18 : decode cX6_init 18 = .ok (.newarray .int, 2) := by decide +kernel
theorem dX6_init_20 : decode cX6_init 20 = .ok (.putfield 18, 3) := by decide +kernel
theorem dX6_init_23 : decode cX6_init 23 = .ok (.return_, 1) := by decide +kernel
theorem dX6_has_0 : decode cX6_has 0 = .ok (.iload_n 1, 1) := by decide +kernel
theorem dX6_has_1 : decode cX6_has 1 = .ok (.ifCond .lt 15, 3) := by decide +kernel
theorem dX6_has_4 : decode cX6_has 4 = .ok (.iload_n 1, 1) := by decide +kernel
theorem dX6_has_5 : decode cX6_has 5 = .ok (.aload_n 0, 1) := by decide +kernel
theorem dX6_has_6 : decode cX6_has 6 = .ok (.getfield 22, 3) := by decide +kernel
theorem dX6_has_9 : decode cX6_has 9 = .ok (.if_icmp .ge 7, 3) := by decide +kernel
theorem dX6_has_12 : decode cX6_has 12 = .ok (.iconst 1, 1) := by decide +kernel
theorem dX6_has_13 : decode cX6_has 13 = .ok (.goto 4, 3) := by decide +kernel
theorem dX6_has_16 : decode cX6_has 16 = .ok (.iconst 0, 1) := by decide +kernel
theorem dX6_has_17 : decode cX6_has 17 = .ok (.ireturn, 1) := by decide +kernel
theorem dX6_isFull_0 : decode cX6_isFull 0 = .ok (.aload_n 0, 1) := by decide +kernel
theorem dX6_isFull_1 : decode cX6_isFull 1 = .ok (.getfield 22, 3) := by decide +kernel
theorem dX6_isFull_4 : decode cX6_isFull 4 = .ok (.aload_n 0, 1) := by decide +kernel
theorem dX6_isFull_5 : decode cX6_isFull 5 = .ok (.getfield 15, 3) := by decide +kernel
theorem dX6_isFull_8 : decode cX6_isFull 8 = .ok (.if_icmp .lt 7, 3) := by decide +kernel
theorem dX6_isFull_11 : decode cX6_isFull 11 = .ok (.iconst 1, 1) := by decide +kernel
theorem dX6_isFull_12 : decode cX6_isFull 12 = .ok (.goto 4, 3) := by decide +kernel
theorem dX6_isFull_15 : decode cX6_isFull 15 = .ok (.iconst 0, 1) := by decide +kernel
theorem dX6_isFull_16 : decode cX6_isFull 16 = .ok (.ireturn, 1) := by decide +kernel
theorem dX6_at_0 : decode cX6_at 0 = .ok (.aload_n 0, 1) := by decide +kernel
theorem dX6_at_1 : decode cX6_at 1 = .ok (.iload_n 1, 1) := by decide +kernel
theorem dX6_at_2 : decode cX6_at 2 = .ok (.invokevirtual 25, 3) := by decide +kernel
theorem dX6_at_5 : decode cX6_at 5 = .ok (.ifCond .eq 31, 3) := by decide +kernel
theorem dX6_at_8 : decode cX6_at 8 = .ok (.iload_n 2, 1) := by decide +kernel
theorem dX6_at_9 : decode cX6_at 9 = .ok (.ifCond .lt 27, 3) := by decide +kernel
theorem dX6_at_12 : decode cX6_at 12 = .ok (.iload_n 2, 1) := by decide +kernel
theorem dX6_at_13 : decode cX6_at 13 = .ok (.aload_n 0, 1) := by decide +kernel
theorem dX6_at_14 : decode cX6_at 14 = .ok (.getfield 9, 3) := by decide +kernel
theorem dX6_at_17 : decode cX6_at 17 = .ok (.if_icmp .ge 19, 3) := by decide +kernel
theorem dX6_at_20 : decode cX6_at 20 = .ok (.aload_n 0, 1) := by decide +kernel
theorem dX6_at_21 : decode cX6_at 21 = .ok (.getfield 18, 3) := by decide +kernel
theorem dX6_at_24 : decode cX6_at 24 = .ok (.iload_n 1, 1) := by decide +kernel
theorem dX6_at_25 : decode cX6_at 25 = .ok (.aload_n 0, 1) := by decide +kernel
theorem dX6_at_26 : decode cX6_at 26 = .ok (.getfield 9, 3) := by decide +kernel
theorem dX6_at_29 : decode cX6_at 29 = .ok (.imul, 1) := by decide +kernel
theorem dX6_at_30 : decode cX6_at 30 = .ok (.iload_n 2, 1) := by decide +kernel
theorem dX6_at_31 : decode cX6_at 31 = .ok (.iadd, 1) := by decide +kernel
theorem dX6_at_32 : decode cX6_at 32 = .ok (.iaload, 1) := by decide +kernel
theorem dX6_at_33 : decode cX6_at 33 = .ok (.goto 4, 3) := by decide +kernel
theorem dX6_at_36 : decode cX6_at 36 = .ok (.iconst (-1), 1) := by decide +kernel
theorem dX6_at_37 : decode cX6_at 37 = .ok (.ireturn, 1) := by decide +kernel
theorem dX6_put_0 : decode cX6_put 0 = .ok (.aload_n 0, 1) := by decide +kernel
theorem dX6_put_1 : decode cX6_put 1 = .ok (.iload_n 1, 1) := by decide +kernel
theorem dX6_put_2 : decode cX6_put 2 = .ok (.invokevirtual 25, 3) := by decide +kernel
theorem dX6_put_5 : decode cX6_put 5 = .ok (.ifCond .eq 29, 3) := by decide +kernel
theorem dX6_put_8 : decode cX6_put 8 = .ok (.iload_n 2, 1) := by decide +kernel
theorem dX6_put_9 : decode cX6_put 9 = .ok (.ifCond .lt 25, 3) := by decide +kernel
theorem dX6_put_12 : decode cX6_put 12 = .ok (.iload_n 2, 1) := by decide +kernel
theorem dX6_put_13 : decode cX6_put 13 = .ok (.aload_n 0, 1) := by decide +kernel
theorem dX6_put_14 : decode cX6_put 14 = .ok (.getfield 9, 3) := by decide +kernel
theorem dX6_put_17 : decode cX6_put 17 = .ok (.if_icmp .ge 17, 3) := by decide +kernel
theorem dX6_put_20 : decode cX6_put 20 = .ok (.aload_n 0, 1) := by decide +kernel
theorem dX6_put_21 : decode cX6_put 21 = .ok (.getfield 18, 3) := by decide +kernel
theorem dX6_put_24 : decode cX6_put 24 = .ok (.iload_n 1, 1) := by decide +kernel
theorem dX6_put_25 : decode cX6_put 25 = .ok (.aload_n 0, 1) := by decide +kernel
theorem dX6_put_26 : decode cX6_put 26 = .ok (.getfield 9, 3) := by decide +kernel
theorem dX6_put_29 : decode cX6_put 29 = .ok (.imul, 1) := by decide +kernel
theorem dX6_put_30 : decode cX6_put 30 = .ok (.iload_n 2, 1) := by decide +kernel
theorem dX6_put_31 : decode cX6_put 31 = .ok (.iadd, 1) := by decide +kernel
theorem dX6_put_32 : decode cX6_put 32 = .ok (.iload_n 3, 1) := by decide +kernel
theorem dX6_put_33 : decode cX6_put 33 = .ok (.iastore, 1) := by decide +kernel
theorem dX6_put_34 : decode cX6_put 34 = .ok (.return_, 1) := by decide +kernel
theorem dX6_add_0 : decode cX6_add 0 = .ok (.aload_n 0, 1) := by decide +kernel
theorem dX6_add_1 : decode cX6_add 1 = .ok (.invokevirtual 29, 3) := by decide +kernel
theorem dX6_add_4 : decode cX6_add 4 = .ok (.ifCond .eq 5, 3) := by decide +kernel
theorem dX6_add_7 : decode cX6_add 7 = .ok (.iconst (-1), 1) := by decide +kernel
theorem dX6_add_8 : decode cX6_add 8 = .ok (.ireturn, 1) := by decide +kernel
theorem dX6_add_9 : decode cX6_add 9 = .ok (.aload_n 0, 1) := by decide +kernel
theorem dX6_add_10 : decode cX6_add 10 = .ok (.getfield 22, 3) := by decide +kernel
theorem dX6_add_13 : decode cX6_add 13 = .ok (.istore 6, 2) := by decide +kernel
theorem dX6_add_15 : decode cX6_add 15 = .ok (.aload_n 0, 1) := by decide +kernel
theorem dX6_add_16 : decode cX6_add 16 = .ok (.dup, 1) := by decide +kernel
theorem dX6_add_17 : decode cX6_add 17 = .ok (.getfield 22, 3) := by decide +kernel
theorem dX6_add_20 : decode cX6_add 20 = .ok (.iconst 1, 1) := by decide +kernel
theorem dX6_add_21 : decode cX6_add 21 = .ok (.iadd, 1) := by decide +kernel
theorem dX6_add_22 : decode cX6_add 22 = .ok (.putfield 22, 3) := by decide +kernel
theorem dX6_add_25 : decode cX6_add 25 = .ok (.aload_n 0, 1) := by decide +kernel
theorem dX6_add_26 : decode cX6_add 26 = .ok (.iload 6, 2) := by decide +kernel
theorem dX6_add_28 : decode cX6_add 28 = .ok (.iconst 0, 1) := by decide +kernel
theorem dX6_add_29 : decode cX6_add 29 = .ok (.iload_n 1, 1) := by decide +kernel
theorem dX6_add_30 : decode cX6_add 30 = .ok (.invokevirtual 33, 3) := by decide +kernel
theorem dX6_add_33 : decode cX6_add 33 = .ok (.aload_n 0, 1) := by decide +kernel
theorem dX6_add_34 : decode cX6_add 34 = .ok (.iload 6, 2) := by decide +kernel
theorem dX6_add_36 : decode cX6_add 36 = .ok (.iconst 1, 1) := by decide +kernel
theorem dX6_add_37 : decode cX6_add 37 = .ok (.iload_n 2, 1) := by decide +kernel
theorem dX6_add_38 : decode cX6_add 38 = .ok (.invokevirtual 33, 3) := by decide +kernel
theorem dX6_add_41 : decode cX6_add 41 = .ok (.aload_n 0, 1) := by decide +kernel
theorem dX6_add_42 : decode cX6_add 42 = .ok (.iload 6, 2) := by decide +kernel
theorem dX6_add_44 : decode cX6_add 44 = .ok (.iconst 2, 1) := by decide +kernel
theorem dX6_add_45 : decode cX6_add 45 = .ok (.iload_n 3, 1) := by decide +kernel
theorem dX6_add_46 : decode cX6_add 46 = .ok (.invokevirtual 33, 3) := by decide +kernel
theorem dX6_add_49 : decode cX6_add 49 = .ok (.aload_n 0, 1) := by decide +kernel
theorem dX6_add_50 : decode cX6_add 50 = .ok (.iload 6, 2) := by decide +kernel
theorem dX6_add_52 : decode cX6_add 52 = .ok (.iconst 3, 1) := by decide +kernel
theorem dX6_add_53 : decode cX6_add 53 = .ok (.iload 4, 2) := by decide +kernel
theorem dX6_add_55 : decode cX6_add 55 = .ok (.invokevirtual 33, 3) := by decide +kernel
theorem dX6_add_58 : decode cX6_add 58 = .ok (.aload_n 0, 1) := by decide +kernel
theorem dX6_add_59 : decode cX6_add 59 = .ok (.iload 6, 2) := by decide +kernel
theorem dX6_add_61 : decode cX6_add 61 = .ok (.iconst 4, 1) := by decide +kernel
theorem dX6_add_62 : decode cX6_add 62 = .ok (.iload 5, 2) := by decide +kernel
theorem dX6_add_64 : decode cX6_add 64 = .ok (.invokevirtual 33, 3) := by decide +kernel
theorem dX6_add_67 : decode cX6_add 67 = .ok (.aload_n 0, 1) := by decide +kernel
theorem dX6_add_68 : decode cX6_add 68 = .ok (.iload 6, 2) := by decide +kernel
theorem dX6_add_70 : decode cX6_add 70 = .ok (.iconst 5, 1) := by decide +kernel
theorem dX6_add_71 : decode cX6_add 71 = .ok (.iconst 0, 1) := by decide +kernel
theorem dX6_add_72 : decode cX6_add 72 = .ok (.invokevirtual 33, 3) := by decide +kernel
theorem dX6_add_75 : decode cX6_add 75 = .ok (.iload 6, 2) := by decide +kernel
theorem dX6_add_77 : decode cX6_add 77 = .ok (.ireturn, 1) := by decide +kernel
theorem dX6_removeLast_0 : decode cX6_removeLast 0 = .ok (.aload_n 0, 1) := by decide +kernel
theorem dX6_removeLast_1 : decode cX6_removeLast 1 = .ok (.getfield 22, 3) := by decide +kernel
theorem dX6_removeLast_4 : decode cX6_removeLast 4 = .ok (.ifCond .le 13, 3) := by decide +kernel
theorem dX6_removeLast_7 : decode cX6_removeLast 7 = .ok (.aload_n 0, 1) := by decide +kernel
theorem dX6_removeLast_8 : decode cX6_removeLast 8 = .ok (.dup, 1) := by decide +kernel
theorem dX6_removeLast_9 : decode cX6_removeLast 9 = .ok (.getfield 22, 3) := by decide +kernel
theorem dX6_removeLast_12 : decode cX6_removeLast 12 = .ok (.iconst 1, 1) := by decide +kernel
theorem dX6_removeLast_13 : decode cX6_removeLast 13 = .ok (.isub, 1) := by decide +kernel
theorem dX6_removeLast_14 : decode cX6_removeLast 14 = .ok (.putfield 22, 3) := by decide +kernel
theorem dX6_removeLast_17 : decode cX6_removeLast 17 = .ok (.return_, 1) := by decide +kernel
theorem dX6_removeFirst_0 : decode cX6_removeFirst 0 = .ok (.aload_n 0, 1) := by decide +kernel
theorem dX6_removeFirst_1 : decode cX6_removeFirst 1 = .ok (.getfield 22, 3) := by decide +kernel
theorem dX6_removeFirst_4 : decode cX6_removeFirst 4 = .ok (.ifCond .le 40, 3) := by decide +kernel
theorem dX6_removeFirst_7 : decode cX6_removeFirst 7 = .ok (.aload_n 0, 1) := by decide +kernel
theorem dX6_removeFirst_8 : decode cX6_removeFirst 8 = .ok (.getfield 18, 3) := by decide +kernel
theorem dX6_removeFirst_11 : decode cX6_removeFirst 11 = .ok (.aload_n 0, 1) := by decide +kernel
theorem dX6_removeFirst_12 : decode cX6_removeFirst 12 = .ok (.getfield 9, 3) := by decide +kernel
theorem dX6_removeFirst_15 : decode cX6_removeFirst 15 = .ok (.aload_n 0, 1) := by decide +kernel
theorem dX6_removeFirst_16 : decode cX6_removeFirst 16 = .ok (.getfield 18, 3) := by decide +kernel
theorem dX6_removeFirst_19 : decode cX6_removeFirst 19 = .ok (.iconst 0, 1) := by decide +kernel
theorem dX6_removeFirst_20 : decode cX6_removeFirst 20 = .ok (.aload_n 0, 1) := by decide +kernel
theorem dX6_removeFirst_21 : decode cX6_removeFirst 21 = .ok (.getfield 22, 3) := by decide +kernel
theorem dX6_removeFirst_24 : decode cX6_removeFirst 24 = .ok (.iconst 1, 1) := by decide +kernel
theorem dX6_removeFirst_25 : decode cX6_removeFirst 25 = .ok (.isub, 1) := by decide +kernel
theorem dX6_removeFirst_26 : decode cX6_removeFirst 26 = .ok (.aload_n 0, 1) := by decide +kernel
theorem dX6_removeFirst_27 : decode cX6_removeFirst 27 = .ok (.getfield 9, 3) := by decide +kernel
theorem dX6_removeFirst_30 : decode cX6_removeFirst 30 = .ok (.imul, 1) := by decide +kernel
theorem dX6_removeFirst_31 : decode cX6_removeFirst 31 = .ok (.invokestatic 37, 3) := by decide +kernel
theorem dX6_removeFirst_34 : decode cX6_removeFirst 34 = .ok (.aload_n 0, 1) := by decide +kernel
theorem dX6_removeFirst_35 : decode cX6_removeFirst 35 = .ok (.dup, 1) := by decide +kernel
theorem dX6_removeFirst_36 : decode cX6_removeFirst 36 = .ok (.getfield 22, 3) := by decide +kernel
theorem dX6_removeFirst_39 : decode cX6_removeFirst 39 = .ok (.iconst 1, 1) := by decide +kernel
theorem dX6_removeFirst_40 : decode cX6_removeFirst 40 = .ok (.isub, 1) := by decide +kernel
theorem dX6_removeFirst_41 : decode cX6_removeFirst 41 = .ok (.putfield 22, 3) := by decide +kernel
theorem dX6_removeFirst_44 : decode cX6_removeFirst 44 = .ok (.return_, 1) := by decide +kernel
theorem dX6_clear_0 : decode cX6_clear 0 = .ok (.aload_n 0, 1) := by decide +kernel
theorem dX6_clear_1 : decode cX6_clear 1 = .ok (.iconst 0, 1) := by decide +kernel
theorem dX6_clear_2 : decode cX6_clear 2 = .ok (.putfield 22, 3) := by decide +kernel
theorem dX6_clear_5 : decode cX6_clear 5 = .ok (.return_, 1) := by decide +kernel
theorem dX6_find_0 : decode cX6_find 0 = .ok (.iconst 0, 1) := by decide +kernel
theorem dX6_find_1 : decode cX6_find 1 = .ok (.istore_n 3, 1) := by decide +kernel
theorem dX6_find_2 : decode cX6_find 2 = .ok (.iload_n 3, 1) := by decide +kernel
theorem dX6_find_3 : decode cX6_find 3 = .ok (.aload_n 0, 1) := by decide +kernel
theorem dX6_find_4 : decode cX6_find 4 = .ok (.getfield 22, 3) := by decide +kernel
theorem dX6_find_7 : decode cX6_find 7 = .ok (.if_icmp .ge 21, 3) := by decide +kernel
theorem dX6_find_10 : decode cX6_find 10 = .ok (.aload_n 0, 1) := by decide +kernel
theorem dX6_find_11 : decode cX6_find 11 = .ok (.iload_n 3, 1) := by decide +kernel
theorem dX6_find_12 : decode cX6_find 12 = .ok (.iload_n 1, 1) := by decide +kernel
theorem dX6_find_13 : decode cX6_find 13 = .ok (.invokevirtual 43, 3) := by decide +kernel
theorem dX6_find_16 : decode cX6_find 16 = .ok (.iload_n 2, 1) := by decide +kernel
theorem dX6_find_17 : decode cX6_find 17 = .ok (.if_icmp .ne 5, 3) := by decide +kernel
theorem dX6_find_20 : decode cX6_find 20 = .ok (.iload_n 3, 1) := by decide +kernel
theorem dX6_find_21 : decode cX6_find 21 = .ok (.ireturn, 1) := by decide +kernel
theorem dX6_find_22 : decode cX6_find 22 = .ok (.iinc 3 1, 3) := by decide +kernel
theorem dX6_find_25 : decode cX6_find 25 = .ok (.goto (-23), 3) := by decide +kernel
theorem dX6_find_28 : decode cX6_find 28 = .ok (.iconst (-1), 1) := by decide +kernel
theorem dX6_find_29 : decode cX6_find 29 = .ok (.ireturn, 1) := by decide +kernel
theorem dX6_sum_0 : decode cX6_sum 0 = .ok (.iconst 0, 1) := by decide +kernel
theorem dX6_sum_1 : decode cX6_sum 1 = .ok (.istore_n 2, 1) := by decide +kernel
theorem dX6_sum_2 : decode cX6_sum 2 = .ok (.iconst 0, 1) := by decide +kernel
theorem dX6_sum_3 : decode cX6_sum 3 = .ok (.istore_n 3, 1) := by decide +kernel
theorem dX6_sum_4 : decode cX6_sum 4 = .ok (.iload_n 3, 1) := by decide +kernel
theorem dX6_sum_5 : decode cX6_sum 5 = .ok (.aload_n 0, 1) := by decide +kernel
theorem dX6_sum_6 : decode cX6_sum 6 = .ok (.getfield 22, 3) := by decide +kernel
theorem dX6_sum_9 : decode cX6_sum 9 = .ok (.if_icmp .ge 18, 3) := by decide +kernel
theorem dX6_sum_12 : decode cX6_sum 12 = .ok (.iload_n 2, 1) := by decide +kernel
theorem dX6_sum_13 : decode cX6_sum 13 = .ok (.aload_n 0, 1) := by decide +kernel
theorem dX6_sum_14 : decode cX6_sum 14 = .ok (.iload_n 3, 1) := by decide +kernel
theorem dX6_sum_15 : decode cX6_sum 15 = .ok (.iload_n 1, 1) := by decide +kernel
theorem dX6_sum_16 : decode cX6_sum 16 = .ok (.invokevirtual 43, 3) := by decide +kernel
theorem dX6_sum_19 : decode cX6_sum 19 = .ok (.iadd, 1) := by decide +kernel
theorem dX6_sum_20 : decode cX6_sum 20 = .ok (.istore_n 2, 1) := by decide +kernel
theorem dX6_sum_21 : decode cX6_sum 21 = .ok (.iinc 3 1, 3) := by decide +kernel
theorem dX6_sum_24 : decode cX6_sum 24 = .ok (.goto (-20), 3) := by decide +kernel
theorem dX6_sum_27 : decode cX6_sum 27 = .ok (.iload_n 2, 1) := by decide +kernel
theorem dX6_sum_28 : decode cX6_sum 28 = .ok (.ireturn, 1) := by decide +kernel
theorem dX6_copyFrom_0 : decode cX6_copyFrom 0 = .ok (.aload_n 0, 1) := by decide +kernel
theorem dX6_copyFrom_1 : decode cX6_copyFrom 1 = .ok (.getfield 18, 3) := by decide +kernel
theorem dX6_copyFrom_4 : decode cX6_copyFrom 4 = .ok (.arraylength, 1) := by decide +kernel
theorem dX6_copyFrom_5 : decode cX6_copyFrom 5 = .ok (.aload_n 1, 1) := by decide +kernel
theorem dX6_copyFrom_6 : decode cX6_copyFrom 6 = .ok (.getfield 18, 3) := by decide +kernel
theorem dX6_copyFrom_9 : decode cX6_copyFrom 9 = .ok (.arraylength, 1) := by decide +kernel
theorem dX6_copyFrom_10 : decode cX6_copyFrom 10 = .ok (.invokestatic 47, 3) := by decide +kernel
theorem dX6_copyFrom_13 : decode cX6_copyFrom 13 = .ok (.istore_n 2, 1) := by decide +kernel
theorem dX6_copyFrom_14 : decode cX6_copyFrom 14 = .ok (.aload_n 1, 1) := by decide +kernel
theorem dX6_copyFrom_15 : decode cX6_copyFrom 15 = .ok (.getfield 18, 3) := by decide +kernel
theorem dX6_copyFrom_18 : decode cX6_copyFrom 18 = .ok (.iconst 0, 1) := by decide +kernel
theorem dX6_copyFrom_19 : decode cX6_copyFrom 19 = .ok (.aload_n 0, 1) := by decide +kernel
theorem dX6_copyFrom_20 : decode cX6_copyFrom 20 = .ok (.getfield 18, 3) := by decide +kernel
theorem dX6_copyFrom_23 : decode cX6_copyFrom 23 = .ok (.iconst 0, 1) := by decide +kernel
theorem dX6_copyFrom_24 : decode cX6_copyFrom 24 = .ok (.iload_n 2, 1) := by decide +kernel
theorem dX6_copyFrom_25 : decode cX6_copyFrom 25 = .ok (.invokestatic 37, 3) := by decide +kernel
theorem dX6_copyFrom_28 : decode cX6_copyFrom 28 = .ok (.aload_n 0, 1) := by decide +kernel
theorem dX6_copyFrom_29 : decode cX6_copyFrom 29 = .ok (.aload_n 1, 1) := by decide +kernel
theorem dX6_copyFrom_30 : decode cX6_copyFrom 30 = .ok (.getfield 22, 3) := by decide +kernel
theorem dX6_copyFrom_33 : decode cX6_copyFrom 33 = .ok (.putfield 22, 3) := by decide +kernel
theorem dX6_copyFrom_36 : decode cX6_copyFrom 36 = .ok (.return_, 1) := by decide +kernel
theorem dX7_init_0 : decode cX7_init 0 = .ok (.aload_n 0, 1) := by decide +kernel
theorem dX7_init_1 : decode cX7_init 1 = .ok (.invokespecial 3, 3) := by decide +kernel
theorem dX7_init_4 : decode cX7_init 4 = .ok (.aload_n 0, 1) := by decide +kernel
theorem dX7_init_5 : decode cX7_init 5 = .ok (.bipush 24, 2) := by decide +kernel
theorem dX7_init_7 : decode cX7_init 7 = .ok (.newarray .int, 2) := by decide +kernel
theorem dX7_init_9 : decode cX7_init 9 = .ok (.putfield 11, 3) := by decide +kernel
theorem dX7_init_12 : decode cX7_init 12 = .ok (.iconst 0, 1) := by decide +kernel
theorem dX7_init_13 : decode cX7_init 13 = .ok (.istore_n 1, 1) := by decide +kernel
theorem dX7_init_14 : decode cX7_init 14 = .ok (.iconst 0, 1) := by decide +kernel
theorem dX7_init_15 : decode cX7_init 15 = .ok (.istore_n 2, 1) := by decide +kernel
theorem dX7_init_16 : decode cX7_init 16 = .ok (.iconst 0, 1) := by decide +kernel
theorem dX7_init_17 : decode cX7_init 17 = .ok (.istore_n 3, 1) := by decide +kernel
theorem dX7_init_18 : decode cX7_init 18 = .ok (.iload_n 3, 1) := by decide +kernel
theorem dX7_init_19 : decode cX7_init 19 = .ok (.ldc 15, 2) := by decide +kernel
theorem dX7_init_21 : decode cX7_init 21 = .ok (.invokevirtual 17, 3) := by decide +kernel
theorem dX7_init_24 : decode cX7_init 24 = .ok (.if_icmp .ge 85, 3) := by decide +kernel
theorem dX7_init_27 : decode cX7_init 27 = .ok (.ldc 15, 2) := by decide +kernel
theorem dX7_init_29 : decode cX7_init 29 = .ok (.iload_n 3, 1) := by decide +kernel
theorem dX7_init_30 : decode cX7_init 30 = .ok (.invokevirtual 23, 3) := by decide +kernel
theorem dX7_init_33 : decode cX7_init 33 = .ok (.bipush 32, 2) := by decide +kernel
theorem dX7_init_35 : decode cX7_init 35 = .ok (.if_icmp .ne 36, 3) := by decide +kernel
theorem dX7_init_38 : decode cX7_init 38 = .ok (.iload_n 1, 1) := by decide +kernel
theorem dX7_init_39 : decode cX7_init 39 = .ok (.bipush 24, 2) := by decide +kernel
theorem dX7_init_41 : decode cX7_init 41 = .ok (.if_icmp .ge 20, 3) := by decide +kernel
theorem dX7_init_44 : decode cX7_init 44 = .ok (.aload_n 0, 1) := by decide +kernel
theorem dX7_init_45 : decode cX7_init 45 = .ok (.getfield 11, 3) := by decide +kernel
theorem dX7_init_48 : decode cX7_init 48 = .ok (.iload_n 1, 1) := by decide +kernel
theorem dX7_init_49 : decode cX7_init 49 = .ok (.dup2, 1) := by decide +kernel
theorem dX7_init_50 : decode cX7_init 50 = .ok (.iaload, 1) := by decide +kernel
theorem dX7_init_51 : decode cX7_init 51 = .ok (.iconst 5, 1) := by decide +kernel
theorem dX7_init_52 : decode cX7_init 52 = .ok (.bipush 6, 2) := by decide +kernel
theorem dX7_init_54 : decode cX7_init 54 = .ok (.iload_n 3, 1) := by decide +kernel
theorem dX7_init_55 : decode cX7_init 55 = .ok (.iload_n 2, 1) := by decide +kernel
theorem dX7_init_56 : decode cX7_init 56 = .ok (.isub, 1) := by decide +kernel
theorem dX7_init_57 : decode cX7_init 57 = .ok (.isub, 1) := by decide +kernel
theorem dX7_init_58 : decode cX7_init 58 = .ok (.imul, 1) := by decide +kernel
theorem dX7_init_59 : decode cX7_init 59 = .ok (.ishl, 1) := by decide +kernel
theorem dX7_init_60 : decode cX7_init 60 = .ok (.iastore, 1) := by decide +kernel
theorem dX7_init_61 : decode cX7_init 61 = .ok (.iinc 1 1, 3) := by decide +kernel
theorem dX7_init_64 : decode cX7_init 64 = .ok (.iload_n 3, 1) := by decide +kernel
theorem dX7_init_65 : decode cX7_init 65 = .ok (.iconst 1, 1) := by decide +kernel
theorem dX7_init_66 : decode cX7_init 66 = .ok (.iadd, 1) := by decide +kernel
theorem dX7_init_67 : decode cX7_init 67 = .ok (.istore_n 2, 1) := by decide +kernel
theorem dX7_init_68 : decode cX7_init 68 = .ok (.goto 35, 3) := by decide +kernel
theorem dX7_init_71 : decode cX7_init 71 = .ok (.iload_n 1, 1) := by decide +kernel
theorem dX7_init_72 : decode cX7_init 72 = .ok (.bipush 24, 2) := by decide +kernel
theorem dX7_init_74 : decode cX7_init 74 = .ok (.if_icmp .ge 29, 3) := by decide +kernel
theorem dX7_init_77 : decode cX7_init 77 = .ok (.aload_n 0, 1) := by decide +kernel
theorem dX7_init_78 : decode cX7_init 78 = .ok (.getfield 11, 3) := by decide +kernel
theorem dX7_init_81 : decode cX7_init 81 = .ok (.iload_n 1, 1) := by decide +kernel
theorem dX7_init_82 : decode cX7_init 82 = .ok (.aload_n 0, 1) := by decide +kernel
theorem dX7_init_83 : decode cX7_init 83 = .ok (.getfield 11, 3) := by decide +kernel
theorem dX7_init_86 : decode cX7_init 86 = .ok (.iload_n 1, 1) := by decide +kernel
theorem dX7_init_87 : decode cX7_init 87 = .ok (.iaload, 1) := by decide +kernel
theorem dX7_init_88 : decode cX7_init 88 = .ok (.iconst 5, 1) := by decide +kernel
theorem dX7_init_89 : decode cX7_init 89 = .ok (.ishl, 1) := by decide +kernel
theorem dX7_init_90 : decode cX7_init 90 = .ok (.ldc 15, 2) := by decide +kernel
theorem dX7_init_92 : decode cX7_init 92 = .ok (.iload_n 3, 1) := by decide +kernel
theorem dX7_init_93 : decode cX7_init 93 = .ok (.invokevirtual 23, 3) := by decide +kernel
theorem dX7_init_96 : decode cX7_init 96 = .ok (.bipush 97, 2) := by decide +kernel
theorem dX7_init_98 : decode cX7_init 98 = .ok (.isub, 1) := by decide +kernel
theorem dX7_init_99 : decode cX7_init 99 = .ok (.iconst 1, 1) := by decide +kernel
theorem dX7_init_100 : decode cX7_init 100 = .ok (.iadd, 1) := by decide +kernel
theorem dX7_init_101 : decode cX7_init 101 = .ok (.ior, 1) := by decide +kernel
theorem dX7_init_102 : decode cX7_init 102 = .ok (.iastore, 1) := by decide +kernel
theorem dX7_init_103 : decode cX7_init 103 = .ok (.iinc 3 1, 3) := by decide +kernel
theorem dX7_init_106 : decode cX7_init 106 = .ok (.goto (-88), 3) := by decide +kernel
theorem dX7_init_109 : decode cX7_init 109 = .ok (.return_, 1) := by decide +kernel
theorem dX7_begin_0 : decode cX7_begin 0 = .ok (.aload_n 0, 1) := by decide +kernel
theorem dX7_begin_1 : decode cX7_begin 1 = .ok (.aload_n 1, 1) := by decide +kernel
theorem dX7_begin_2 : decode cX7_begin 2 = .ok (.putfield 27, 3) := by decide +kernel
theorem dX7_begin_5 : decode cX7_begin 5 = .ok (.aload_n 0, 1) := by decide +kernel
theorem dX7_begin_6 : decode cX7_begin 6 = .ok (.iload_n 2, 1) := by decide +kernel
theorem dX7_begin_7 : decode cX7_begin 7 = .ok (.putfield 31, 3) := by decide +kernel
theorem dX7_begin_10 : decode cX7_begin 10 = .ok (.aload_n 0, 1) := by decide +kernel
theorem dX7_begin_11 : decode cX7_begin 11 = .ok (.iconst 0, 1) := by decide +kernel
theorem dX7_begin_12 : decode cX7_begin 12 = .ok (.putfield 34, 3) := by decide +kernel
theorem dX7_begin_15 : decode cX7_begin 15 = .ok (.return_, 1) := by decide +kernel
theorem dX7_signAt_0 : decode cX7_signAt 0 = .ok (.aload_n 0, 1) := by decide +kernel
theorem dX7_signAt_1 : decode cX7_signAt 1 = .ok (.getfield 27, 3) := by decide +kernel
theorem dX7_signAt_4 : decode cX7_signAt 4 = .ok (.ifnull 37, 3) := by decide +kernel
theorem dX7_signAt_7 : decode cX7_signAt 7 = .ok (.iload_n 1, 1) := by decide +kernel
theorem dX7_signAt_8 : decode cX7_signAt 8 = .ok (.ifCond .lt 33, 3) := by decide +kernel
theorem dX7_signAt_11 : decode cX7_signAt 11 = .ok (.iload_n 1, 1) := by decide +kernel
theorem dX7_signAt_12 : decode cX7_signAt 12 = .ok (.aload_n 0, 1) := by decide +kernel
theorem dX7_signAt_13 : decode cX7_signAt 13 = .ok (.getfield 31, 3) := by decide +kernel
theorem dX7_signAt_16 : decode cX7_signAt 16 = .ok (.if_icmp .ge 25, 3) := by decide +kernel
theorem dX7_signAt_19 : decode cX7_signAt 19 = .ok (.iload_n 1, 1) := by decide +kernel
theorem dX7_signAt_20 : decode cX7_signAt 20 = .ok (.aload_n 0, 1) := by decide +kernel
theorem dX7_signAt_21 : decode cX7_signAt 21 = .ok (.getfield 27, 3) := by decide +kernel
theorem dX7_signAt_24 : decode cX7_signAt 24 = .ok (.arraylength, 1) := by decide +kernel
theorem dX7_signAt_25 : decode cX7_signAt 25 = .ok (.if_icmp .ge 16, 3) := by decide +kernel
theorem dX7_signAt_28 : decode cX7_signAt 28 = .ok (.aload_n 0, 1) := by decide +kernel
theorem dX7_signAt_29 : decode cX7_signAt 29 = .ok (.getfield 27, 3) := by decide +kernel
theorem dX7_signAt_32 : decode cX7_signAt 32 = .ok (.iload_n 1, 1) := by decide +kernel
theorem dX7_signAt_33 : decode cX7_signAt 33 = .ok (.baload, 1) := by decide +kernel
theorem dX7_signAt_34 : decode cX7_signAt 34 = .ok (.sipush 255, 3) := by decide +kernel
theorem dX7_signAt_37 : decode cX7_signAt 37 = .ok (.iand, 1) := by decide +kernel
theorem dX7_signAt_38 : decode cX7_signAt 38 = .ok (.goto 4, 3) := by decide +kernel
theorem dX7_signAt_41 : decode cX7_signAt 41 = .ok (.iconst (-1), 1) := by decide +kernel
theorem dX7_signAt_42 : decode cX7_signAt 42 = .ok (.ireturn, 1) := by decide +kernel
theorem dX7_advance_0 : decode cX7_advance 0 = .ok (.aload_n 0, 1) := by decide +kernel
theorem dX7_advance_1 : decode cX7_advance 1 = .ok (.getfield 34, 3) := by decide +kernel
theorem dX7_advance_4 : decode cX7_advance 4 = .ok (.aload_n 0, 1) := by decide +kernel
theorem dX7_advance_5 : decode cX7_advance 5 = .ok (.getfield 31, 3) := by decide +kernel
theorem dX7_advance_8 : decode cX7_advance 8 = .ok (.if_icmp .ge 42, 3) := by decide +kernel
theorem dX7_advance_11 : decode cX7_advance 11 = .ok (.aload_n 0, 1) := by decide +kernel
theorem dX7_advance_12 : decode cX7_advance 12 = .ok (.aload_n 0, 1) := by decide +kernel
theorem dX7_advance_13 : decode cX7_advance 13 = .ok (.getfield 34, 3) := by decide +kernel
theorem dX7_advance_16 : decode cX7_advance 16 = .ok (.invokevirtual 37, 3) := by decide +kernel
theorem dX7_advance_19 : decode cX7_advance 19 = .ok (.bipush 10, 2) := by decide +kernel
theorem dX7_advance_21 : decode cX7_advance 21 = .ok (.if_icmp .eq 16, 3) := by decide +kernel
theorem dX7_advance_24 : decode cX7_advance 24 = .ok (.aload_n 0, 1) := by decide +kernel
theorem dX7_advance_25 : decode cX7_advance 25 = .ok (.aload_n 0, 1) := by decide +kernel
theorem dX7_advance_26 : decode cX7_advance 26 = .ok (.getfield 34, 3) := by decide +kernel
theorem dX7_advance_29 : decode cX7_advance 29 = .ok (.invokevirtual 37, 3) := by decide +kernel
theorem dX7_advance_32 : decode cX7_advance 32 = .ok (.bipush 32, 2) := by decide +kernel
theorem dX7_advance_34 : decode cX7_advance 34 = .ok (.if_icmp .ne 16, 3) := by decide +kernel
theorem dX7_advance_37 : decode cX7_advance 37 = .ok (.aload_n 0, 1) := by decide +kernel
theorem dX7_advance_38 : decode cX7_advance 38 = .ok (.dup, 1) := by decide +kernel
theorem dX7_advance_39 : decode cX7_advance 39 = .ok (.getfield 34, 3) := by decide +kernel
theorem dX7_advance_42 : decode cX7_advance 42 = .ok (.iconst 1, 1) := by decide +kernel
theorem dX7_advance_43 : decode cX7_advance 43 = .ok (.iadd, 1) := by decide +kernel
theorem dX7_advance_44 : decode cX7_advance 44 = .ok (.putfield 34, 3) := by decide +kernel
theorem dX7_advance_47 : decode cX7_advance 47 = .ok (.goto (-47), 3) := by decide +kernel
theorem dX7_advance_50 : decode cX7_advance 50 = .ok (.aload_n 0, 1) := by decide +kernel
theorem dX7_advance_51 : decode cX7_advance 51 = .ok (.aload_n 0, 1) := by decide +kernel
theorem dX7_advance_52 : decode cX7_advance 52 = .ok (.getfield 34, 3) := by decide +kernel
theorem dX7_advance_55 : decode cX7_advance 55 = .ok (.putfield 41, 3) := by decide +kernel
theorem dX7_advance_58 : decode cX7_advance 58 = .ok (.aload_n 0, 1) := by decide +kernel
theorem dX7_advance_59 : decode cX7_advance 59 = .ok (.aload_n 0, 1) := by decide +kernel
theorem dX7_advance_60 : decode cX7_advance 60 = .ok (.getfield 34, 3) := by decide +kernel
theorem dX7_advance_63 : decode cX7_advance 63 = .ok (.invokevirtual 37, 3) := by decide +kernel
theorem dX7_advance_66 : decode cX7_advance 66 = .ok (.istore_n 1, 1) := by decide +kernel
theorem dX7_advance_67 : decode cX7_advance 67 = .ok (.aload_n 0, 1) := by decide +kernel
theorem dX7_advance_68 : decode cX7_advance 68 = .ok (.getfield 34, 3) := by decide +kernel
theorem dX7_advance_71 : decode cX7_advance 71 = .ok (.aload_n 0, 1) := by decide +kernel
theorem dX7_advance_72 : decode cX7_advance 72 = .ok (.getfield 31, 3) := by decide +kernel
theorem dX7_advance_75 : decode cX7_advance 75 = .ok (.if_icmp .lt 11, 3) := by decide +kernel
theorem dX7_advance_78 : decode cX7_advance 78 = .ok (.aload_n 0, 1) := by decide +kernel
theorem dX7_advance_79 : decode cX7_advance 79 = .ok (.iconst 0, 1) := by decide +kernel
theorem dX7_advance_80 : decode cX7_advance 80 = .ok (.putfield 44, 3) := by decide +kernel
theorem dX7_advance_83 : decode cX7_advance 83 = .ok (.goto 36, 3) := by decide +kernel
theorem dX7_advance_86 : decode cX7_advance 86 = .ok (.iload_n 1, 1) := by decide +kernel
theorem dX7_advance_87 : decode cX7_advance 87 = .ok (.invokestatic 47, 3) := by decide +kernel
theorem dX7_advance_90 : decode cX7_advance 90 = .ok (.ifCond .eq 10, 3) := by decide +kernel
theorem dX7_advance_93 : decode cX7_advance 93 = .ok (.aload_n 0, 1) := by decide +kernel
theorem dX7_advance_94 : decode cX7_advance 94 = .ok (.invokevirtual 51, 3) := by decide +kernel
theorem dX7_advance_97 : decode cX7_advance 97 = .ok (.goto 22, 3) := by decide +kernel
theorem dX7_advance_100 : decode cX7_advance 100 = .ok (.iload_n 1, 1) := by decide +kernel
theorem dX7_advance_101 : decode cX7_advance 101 = .ok (.invokestatic 54, 3) := by decide +kernel
theorem dX7_advance_104 : decode cX7_advance 104 = .ok (.ifCond .eq 10, 3) := by decide +kernel
theorem dX7_advance_107 : decode cX7_advance 107 = .ok (.aload_n 0, 1) := by decide +kernel
theorem dX7_advance_108 : decode cX7_advance 108 = .ok (.invokevirtual 57, 3) := by decide +kernel
theorem dX7_advance_111 : decode cX7_advance 111 = .ok (.goto 8, 3) := by decide +kernel
theorem dX7_advance_114 : decode cX7_advance 114 = .ok (.aload_n 0, 1) := by decide +kernel
theorem dX7_advance_115 : decode cX7_advance 115 = .ok (.iload_n 1, 1) := by decide +kernel
theorem dX7_advance_116 : decode cX7_advance 116 = .ok (.invokevirtual 60, 3) := by decide +kernel
theorem dX7_advance_119 : decode cX7_advance 119 = .ok (.return_, 1) := by decide +kernel
theorem dX7_isLetter_0 : decode cX7_isLetter 0 = .ok (.iload_n 0, 1) := by decide +kernel
theorem dX7_isLetter_1 : decode cX7_isLetter 1 = .ok (.bipush 97, 2) := by decide +kernel
theorem dX7_isLetter_3 : decode cX7_isLetter 3 = .ok (.if_icmp .lt 13, 3) := by decide +kernel
theorem dX7_isLetter_6 : decode cX7_isLetter 6 = .ok (.iload_n 0, 1) := by decide +kernel
theorem dX7_isLetter_7 : decode cX7_isLetter 7 = .ok (.bipush 122, 2) := by decide +kernel
theorem dX7_isLetter_9 : decode cX7_isLetter 9 = .ok (.if_icmp .gt 7, 3) := by decide +kernel
theorem dX7_isLetter_12 : decode cX7_isLetter 12 = .ok (.iconst 1, 1) := by decide +kernel
theorem dX7_isLetter_13 : decode cX7_isLetter 13 = .ok (.goto 4, 3) := by decide +kernel
theorem dX7_isLetter_16 : decode cX7_isLetter 16 = .ok (.iconst 0, 1) := by decide +kernel
theorem dX7_isLetter_17 : decode cX7_isLetter 17 = .ok (.ireturn, 1) := by decide +kernel
theorem dX7_isDigit_0 : decode cX7_isDigit 0 = .ok (.iload_n 0, 1) := by decide +kernel
theorem dX7_isDigit_1 : decode cX7_isDigit 1 = .ok (.bipush 48, 2) := by decide +kernel
theorem dX7_isDigit_3 : decode cX7_isDigit 3 = .ok (.if_icmp .lt 13, 3) := by decide +kernel
theorem dX7_isDigit_6 : decode cX7_isDigit 6 = .ok (.iload_n 0, 1) := by decide +kernel
theorem dX7_isDigit_7 : decode cX7_isDigit 7 = .ok (.bipush 57, 2) := by decide +kernel
theorem dX7_isDigit_9 : decode cX7_isDigit 9 = .ok (.if_icmp .gt 7, 3) := by decide +kernel
theorem dX7_isDigit_12 : decode cX7_isDigit 12 = .ok (.iconst 1, 1) := by decide +kernel
theorem dX7_isDigit_13 : decode cX7_isDigit 13 = .ok (.goto 4, 3) := by decide +kernel
theorem dX7_isDigit_16 : decode cX7_isDigit 16 = .ok (.iconst 0, 1) := by decide +kernel
theorem dX7_isDigit_17 : decode cX7_isDigit 17 = .ok (.ireturn, 1) := by decide +kernel
theorem dX7_takeWord_0 : decode cX7_takeWord 0 = .ok (.aload_n 0, 1) := by decide +kernel
theorem dX7_takeWord_1 : decode cX7_takeWord 1 = .ok (.iconst 0, 1) := by decide +kernel
theorem dX7_takeWord_2 : decode cX7_takeWord 2 = .ok (.putfield 64, 3) := by decide +kernel
theorem dX7_takeWord_5 : decode cX7_takeWord 5 = .ok (.aload_n 0, 1) := by decide +kernel
theorem dX7_takeWord_6 : decode cX7_takeWord 6 = .ok (.getfield 34, 3) := by decide +kernel
theorem dX7_takeWord_9 : decode cX7_takeWord 9 = .ok (.aload_n 0, 1) := by decide +kernel
theorem dX7_takeWord_10 : decode cX7_takeWord 10 = .ok (.getfield 31, 3) := by decide +kernel
theorem dX7_takeWord_13 : decode cX7_takeWord 13 = .ok (.if_icmp .ge 68, 3) := by decide +kernel
theorem dX7_takeWord_16 : decode cX7_takeWord 16 = .ok (.aload_n 0, 1) := by decide +kernel
theorem dX7_takeWord_17 : decode cX7_takeWord 17 = .ok (.aload_n 0, 1) := by decide +kernel
theorem dX7_takeWord_18 : decode cX7_takeWord 18 = .ok (.getfield 34, 3) := by decide +kernel
theorem dX7_takeWord_21 : decode cX7_takeWord 21 = .ok (.invokevirtual 37, 3) := by decide +kernel
theorem dX7_takeWord_24 : decode cX7_takeWord 24 = .ok (.invokestatic 47, 3) := by decide +kernel
theorem dX7_takeWord_27 : decode cX7_takeWord 27 = .ok (.ifCond .eq 54, 3) := by decide +kernel
theorem dX7_takeWord_30 : decode cX7_takeWord 30 = .ok (.aload_n 0, 1) := by decide +kernel
theorem dX7_takeWord_31 : decode cX7_takeWord 31 = .ok (.getfield 34, 3) := by decide +kernel
theorem dX7_takeWord_34 : decode cX7_takeWord 34 = .ok (.aload_n 0, 1) := by decide +kernel
theorem dX7_takeWord_35 : decode cX7_takeWord 35 = .ok (.getfield 41, 3) := by decide +kernel
theorem dX7_takeWord_38 : decode cX7_takeWord 38 = .ok (.isub, 1) := by decide +kernel
theorem dX7_takeWord_39 : decode cX7_takeWord 39 = .ok (.bipush 6, 2) := by decide +kernel
theorem dX7_takeWord_41 : decode cX7_takeWord 41 = .ok (.if_icmp .ge 27, 3) := by decide +kernel
theorem dX7_takeWord_44 : decode cX7_takeWord 44 = .ok (.aload_n 0, 1) := by decide +kernel
theorem dX7_takeWord_45 : decode cX7_takeWord 45 = .ok (.aload_n 0, 1) := by decide +kernel
theorem dX7_takeWord_46 : decode cX7_takeWord 46 = .ok (.getfield 64, 3) := by decide +kernel
theorem dX7_takeWord_49 : decode cX7_takeWord 49 = .ok (.iconst 5, 1) := by decide +kernel
theorem dX7_takeWord_50 : decode cX7_takeWord 50 = .ok (.ishl, 1) := by decide +kernel
theorem dX7_takeWord_51 : decode cX7_takeWord 51 = .ok (.aload_n 0, 1) := by decide +kernel
theorem dX7_takeWord_52 : decode cX7_takeWord 52 = .ok (.aload_n 0, 1) := by decide +kernel
theorem dX7_takeWord_53 : decode cX7_takeWord 53 = .ok (.getfield 34, 3) := by decide +kernel
theorem dX7_takeWord_56 : decode cX7_takeWord 56 = .ok (.invokevirtual 37, 3) := by decide +kernel
theorem dX7_takeWord_59 : decode cX7_takeWord 59 = .ok (.bipush 97, 2) := by decide +kernel
theorem dX7_takeWord_61 : decode cX7_takeWord 61 = .ok (.isub, 1) := by decide +kernel
theorem dX7_takeWord_62 : decode cX7_takeWord 62 = .ok (.iconst 1, 1) := by decide +kernel
theorem dX7_takeWord_63 : decode cX7_takeWord 63 = .ok (.iadd, 1) := by decide +kernel
theorem dX7_takeWord_64 : decode cX7_takeWord 64 = .ok (.ior, 1) := by decide +kernel
theorem dX7_takeWord_65 : decode cX7_takeWord 65 = .ok (.putfield 64, 3) := by decide +kernel
theorem dX7_takeWord_68 : decode cX7_takeWord 68 = .ok (.aload_n 0, 1) := by decide +kernel
theorem dX7_takeWord_69 : decode cX7_takeWord 69 = .ok (.dup, 1) := by decide +kernel
theorem dX7_takeWord_70 : decode cX7_takeWord 70 = .ok (.getfield 34, 3) := by decide +kernel
theorem dX7_takeWord_73 : decode cX7_takeWord 73 = .ok (.iconst 1, 1) := by decide +kernel
theorem dX7_takeWord_74 : decode cX7_takeWord 74 = .ok (.iadd, 1) := by decide +kernel
theorem dX7_takeWord_75 : decode cX7_takeWord 75 = .ok (.putfield 34, 3) := by decide +kernel
theorem dX7_takeWord_78 : decode cX7_takeWord 78 = .ok (.goto (-73), 3) := by decide +kernel
theorem dX7_takeWord_81 : decode cX7_takeWord 81 = .ok (.aload_n 0, 1) := by decide +kernel
theorem dX7_takeWord_82 : decode cX7_takeWord 82 = .ok (.getfield 34, 3) := by decide +kernel
theorem dX7_takeWord_85 : decode cX7_takeWord 85 = .ok (.aload_n 0, 1) := by decide +kernel
theorem dX7_takeWord_86 : decode cX7_takeWord 86 = .ok (.getfield 41, 3) := by decide +kernel
theorem dX7_takeWord_89 : decode cX7_takeWord 89 = .ok (.isub, 1) := by decide +kernel
theorem dX7_takeWord_90 : decode cX7_takeWord 90 = .ok (.bipush 6, 2) := by decide +kernel
theorem dX7_takeWord_92 : decode cX7_takeWord 92 = .ok (.if_icmp .le 9, 3) := by decide +kernel
theorem dX7_takeWord_95 : decode cX7_takeWord 95 = .ok (.aload_n 0, 1) := by decide +kernel
theorem dX7_takeWord_96 : decode cX7_takeWord 96 = .ok (.iconst 1, 1) := by decide +kernel
theorem dX7_takeWord_97 : decode cX7_takeWord 97 = .ok (.putfield 44, 3) := by decide +kernel
theorem dX7_takeWord_100 : decode cX7_takeWord 100 = .ok (.return_, 1) := by decide +kernel
theorem dX7_takeWord_101 : decode cX7_takeWord 101 = .ok (.aload_n 0, 1) := by decide +kernel
theorem dX7_takeWord_102 : decode cX7_takeWord 102 = .ok (.dup, 1) := by decide +kernel
theorem dX7_takeWord_103 : decode cX7_takeWord 103 = .ok (.getfield 64, 3) := by decide +kernel
theorem dX7_takeWord_106 : decode cX7_takeWord 106 = .ok (.iconst 5, 1) := by decide +kernel
theorem dX7_takeWord_107 : decode cX7_takeWord 107 = .ok (.bipush 6, 2) := by decide +kernel
theorem dX7_takeWord_109 : decode cX7_takeWord 109 = .ok (.aload_n 0, 1) := by decide +kernel
theorem dX7_takeWord_110 : decode cX7_takeWord 110 = .ok (.getfield 34, 3) := by decide +kernel
theorem dX7_takeWord_113 : decode cX7_takeWord 113 = .ok (.aload_n 0, 1) := by decide +kernel
theorem dX7_takeWord_114 : decode cX7_takeWord 114 = .ok (.getfield 41, 3) := by decide +kernel
theorem dX7_takeWord_117 : decode cX7_takeWord 117 = .ok (.isub, 1) := by decide +kernel
theorem dX7_takeWord_118 : decode cX7_takeWord 118 = .ok (.isub, 1) := by decide +kernel
theorem dX7_takeWord_119 : decode cX7_takeWord 119 = .ok (.imul, 1) := by decide +kernel
theorem dX7_takeWord_120 : decode cX7_takeWord 120 = .ok (.ishl, 1) := by decide +kernel
theorem dX7_takeWord_121 : decode cX7_takeWord 121 = .ok (.putfield 64, 3) := by decide +kernel
theorem dX7_takeWord_124 : decode cX7_takeWord 124 = .ok (.aload_n 0, 1) := by decide +kernel
theorem dX7_takeWord_125 : decode cX7_takeWord 125 = .ok (.iconst 3, 1) := by decide +kernel
theorem dX7_takeWord_126 : decode cX7_takeWord 126 = .ok (.putfield 44, 3) := by decide +kernel
theorem dX7_takeWord_129 : decode cX7_takeWord 129 = .ok (.iconst 0, 1) := by decide +kernel
theorem dX7_takeWord_130 : decode cX7_takeWord 130 = .ok (.istore_n 1, 1) := by decide +kernel
theorem dX7_takeWord_131 : decode cX7_takeWord 131 = .ok (.iload_n 1, 1) := by decide +kernel
theorem dX7_takeWord_132 : decode cX7_takeWord 132 = .ok (.bipush 24, 2) := by decide +kernel
theorem dX7_takeWord_134 : decode cX7_takeWord 134 = .ok (.if_icmp .ge 40, 3) := by decide +kernel
theorem dX7_takeWord_137 : decode cX7_takeWord 137 = .ok (.aload_n 0, 1) := by decide +kernel
theorem dX7_takeWord_138 : decode cX7_takeWord 138 = .ok (.getfield 44, 3) := by decide +kernel
theorem dX7_takeWord_141 : decode cX7_takeWord 141 = .ok (.iconst 3, 1) := by decide +kernel
theorem dX7_takeWord_142 : decode cX7_takeWord 142 = .ok (.if_icmp .ne 26, 3) := by decide +kernel
theorem dX7_takeWord_145 : decode cX7_takeWord 145 = .ok (.aload_n 0, 1) := by decide +kernel
theorem dX7_takeWord_146 : decode cX7_takeWord 146 = .ok (.getfield 11, 3) := by decide +kernel
theorem dX7_takeWord_149 : decode cX7_takeWord 149 = .ok (.iload_n 1, 1) := by decide +kernel
theorem dX7_takeWord_150 : decode cX7_takeWord 150 = .ok (.iaload, 1) := by decide +kernel
theorem dX7_takeWord_151 : decode cX7_takeWord 151 = .ok (.aload_n 0, 1) := by decide +kernel
theorem dX7_takeWord_152 : decode cX7_takeWord 152 = .ok (.getfield 64, 3) := by decide +kernel
theorem dX7_takeWord_155 : decode cX7_takeWord 155 = .ok (.if_icmp .ne 13, 3) := by decide +kernel
theorem dX7_takeWord_158 : decode cX7_takeWord 158 = .ok (.aload_n 0, 1) := by decide +kernel
theorem dX7_takeWord_159 : decode cX7_takeWord 159 = .ok (.iconst 4, 1) := by decide +kernel
theorem dX7_takeWord_160 : decode cX7_takeWord 160 = .ok (.putfield 44, 3) := by decide +kernel
theorem dX7_takeWord_163 : decode cX7_takeWord 163 = .ok (.aload_n 0, 1) := by decide +kernel
theorem dX7_takeWord_164 : decode cX7_takeWord 164 = .ok (.iload_n 1, 1) := by decide +kernel
theorem dX7_takeWord_165 : decode cX7_takeWord 165 = .ok (.putfield 64, 3) := by decide +kernel
theorem dX7_takeWord_168 : decode cX7_takeWord 168 = .ok (.iinc 1 1, 3) := by decide +kernel
theorem dX7_takeWord_171 : decode cX7_takeWord 171 = .ok (.goto (-40), 3) := by decide +kernel
theorem dX7_takeWord_174 : decode cX7_takeWord 174 = .ok (.return_, 1) := by decide +kernel
theorem dX7_takeNumber_0 : decode cX7_takeNumber 0 = .ok (.aload_n 0, 1) := by decide +kernel
theorem dX7_takeNumber_1 : decode cX7_takeNumber 1 = .ok (.iconst 2, 1) := by decide +kernel
theorem dX7_takeNumber_2 : decode cX7_takeNumber 2 = .ok (.putfield 44, 3) := by decide +kernel
theorem dX7_takeNumber_5 : decode cX7_takeNumber 5 = .ok (.aload_n 0, 1) := by decide +kernel
theorem dX7_takeNumber_6 : decode cX7_takeNumber 6 = .ok (.iconst 0, 1) := by decide +kernel
theorem dX7_takeNumber_7 : decode cX7_takeNumber 7 = .ok (.putfield 64, 3) := by decide +kernel
theorem dX7_takeNumber_10 : decode cX7_takeNumber 10 = .ok (.aload_n 0, 1) := by decide +kernel
theorem dX7_takeNumber_11 : decode cX7_takeNumber 11 = .ok (.getfield 34, 3) := by decide +kernel
theorem dX7_takeNumber_14 : decode cX7_takeNumber 14 = .ok (.aload_n 0, 1) := by decide +kernel
theorem dX7_takeNumber_15 : decode cX7_takeNumber 15 = .ok (.getfield 31, 3) := by decide +kernel
theorem dX7_takeNumber_18 : decode cX7_takeNumber 18 = .ok (.if_icmp .ge 58, 3) := by decide +kernel
theorem dX7_takeNumber_21 : decode cX7_takeNumber 21 = .ok (.aload_n 0, 1) := by decide +kernel
theorem dX7_takeNumber_22 : decode cX7_takeNumber 22 = .ok (.aload_n 0, 1) := by decide +kernel
theorem dX7_takeNumber_23 : decode cX7_takeNumber 23 = .ok (.getfield 34, 3) := by decide +kernel
theorem dX7_takeNumber_26 : decode cX7_takeNumber 26 = .ok (.invokevirtual 37, 3) := by decide +kernel
theorem dX7_takeNumber_29 : decode cX7_takeNumber 29 = .ok (.invokestatic 54, 3) := by decide +kernel
theorem dX7_takeNumber_32 : decode cX7_takeNumber 32 = .ok (.ifCond .eq 44, 3) := by decide +kernel
theorem dX7_takeNumber_35 : decode cX7_takeNumber 35 = .ok (.aload_n 0, 1) := by decide +kernel
theorem dX7_takeNumber_36 : decode cX7_takeNumber 36 = .ok (.aload_n 0, 1) := by decide +kernel
theorem dX7_takeNumber_37 : decode cX7_takeNumber 37 = .ok (.getfield 64, 3) := by decide +kernel
theorem dX7_takeNumber_40 : decode cX7_takeNumber 40 = .ok (.bipush 10, 2) := by decide +kernel
theorem dX7_takeNumber_42 : decode cX7_takeNumber 42 = .ok (.imul, 1) := by decide +kernel
theorem dX7_takeNumber_43 : decode cX7_takeNumber 43 = .ok (.aload_n 0, 1) := by decide +kernel
theorem dX7_takeNumber_44 : decode cX7_takeNumber 44 = .ok (.aload_n 0, 1) := by decide +kernel
theorem dX7_takeNumber_45 : decode cX7_takeNumber 45 = .ok (.getfield 34, 3) := by decide +kernel
theorem dX7_takeNumber_48 : decode cX7_takeNumber 48 = .ok (.invokevirtual 37, 3) := by decide +kernel
theorem dX7_takeNumber_51 : decode cX7_takeNumber 51 = .ok (.iadd, 1) := by decide +kernel
theorem dX7_takeNumber_52 : decode cX7_takeNumber 52 = .ok (.bipush 48, 2) := by decide +kernel
theorem dX7_takeNumber_54 : decode cX7_takeNumber 54 = .ok (.isub, 1) := by decide +kernel
theorem dX7_takeNumber_55 : decode cX7_takeNumber 55 = .ok (.ldc 67, 2) := by decide +kernel
theorem dX7_takeNumber_57 : decode cX7_takeNumber 57 = .ok (.invokestatic 68, 3) := by decide +kernel
theorem dX7_takeNumber_60 : decode cX7_takeNumber 60 = .ok (.putfield 64, 3) := by decide +kernel
theorem dX7_takeNumber_63 : decode cX7_takeNumber 63 = .ok (.aload_n 0, 1) := by decide +kernel
theorem dX7_takeNumber_64 : decode cX7_takeNumber 64 = .ok (.dup, 1) := by decide +kernel
theorem dX7_takeNumber_65 : decode cX7_takeNumber 65 = .ok (.getfield 34, 3) := by decide +kernel
theorem dX7_takeNumber_68 : decode cX7_takeNumber 68 = .ok (.iconst 1, 1) := by decide +kernel
theorem dX7_takeNumber_69 : decode cX7_takeNumber 69 = .ok (.iadd, 1) := by decide +kernel
theorem dX7_takeNumber_70 : decode cX7_takeNumber 70 = .ok (.putfield 34, 3) := by decide +kernel
theorem dX7_takeNumber_73 : decode cX7_takeNumber 73 = .ok (.goto (-63), 3) := by decide +kernel
theorem dX7_takeNumber_76 : decode cX7_takeNumber 76 = .ok (.return_, 1) := by decide +kernel
theorem dX7_takeSign_0 : decode cX7_takeSign 0 = .ok (.aload_n 0, 1) := by decide +kernel
theorem dX7_takeSign_1 : decode cX7_takeSign 1 = .ok (.iconst 5, 1) := by decide +kernel
theorem dX7_takeSign_2 : decode cX7_takeSign 2 = .ok (.putfield 44, 3) := by decide +kernel
theorem dX7_takeSign_5 : decode cX7_takeSign 5 = .ok (.aload_n 0, 1) := by decide +kernel
theorem dX7_takeSign_6 : decode cX7_takeSign 6 = .ok (.iload_n 1, 1) := by decide +kernel
theorem dX7_takeSign_7 : decode cX7_takeSign 7 = .ok (.putfield 64, 3) := by decide +kernel
theorem dX7_takeSign_10 : decode cX7_takeSign 10 = .ok (.aload_n 0, 1) := by decide +kernel
theorem dX7_takeSign_11 : decode cX7_takeSign 11 = .ok (.dup, 1) := by decide +kernel
theorem dX7_takeSign_12 : decode cX7_takeSign 12 = .ok (.getfield 34, 3) := by decide +kernel
theorem dX7_takeSign_15 : decode cX7_takeSign 15 = .ok (.iconst 1, 1) := by decide +kernel
theorem dX7_takeSign_16 : decode cX7_takeSign 16 = .ok (.iadd, 1) := by decide +kernel
theorem dX7_takeSign_17 : decode cX7_takeSign 17 = .ok (.putfield 34, 3) := by decide +kernel
theorem dX7_takeSign_20 : decode cX7_takeSign 20 = .ok (.aload_n 0, 1) := by decide +kernel
theorem dX7_takeSign_21 : decode cX7_takeSign 21 = .ok (.aload_n 0, 1) := by decide +kernel
theorem dX7_takeSign_22 : decode cX7_takeSign 22 = .ok (.getfield 34, 3) := by decide +kernel
theorem dX7_takeSign_25 : decode cX7_takeSign 25 = .ok (.invokevirtual 37, 3) := by decide +kernel
theorem dX7_takeSign_28 : decode cX7_takeSign 28 = .ok (.istore_n 2, 1) := by decide +kernel
theorem dX7_takeSign_29 : decode cX7_takeSign 29 = .ok (.iload_n 1, 1) := by decide +kernel
theorem dX7_takeSign_30 : decode cX7_takeSign 30 = .ok (.bipush 60, 2) := by decide +kernel
theorem dX7_takeSign_32 : decode cX7_takeSign 32 = .ok (.if_icmp .ne 29, 3) := by decide +kernel
theorem dX7_takeSign_35 : decode cX7_takeSign 35 = .ok (.iload_n 2, 1) := by decide +kernel
theorem dX7_takeSign_36 : decode cX7_takeSign 36 = .ok (.bipush 61, 2) := by decide +kernel
theorem dX7_takeSign_38 : decode cX7_takeSign 38 = .ok (.if_icmp .ne 23, 3) := by decide +kernel
theorem dX7_takeSign_41 : decode cX7_takeSign 41 = .ok (.aload_n 0, 1) := by decide +kernel
theorem dX7_takeSign_42 : decode cX7_takeSign 42 = .ok (.sipush 256, 3) := by decide +kernel
theorem dX7_takeSign_45 : decode cX7_takeSign 45 = .ok (.putfield 64, 3) := by decide +kernel
theorem dX7_takeSign_48 : decode cX7_takeSign 48 = .ok (.aload_n 0, 1) := by decide +kernel
theorem dX7_takeSign_49 : decode cX7_takeSign 49 = .ok (.dup, 1) := by decide +kernel
theorem dX7_takeSign_50 : decode cX7_takeSign 50 = .ok (.getfield 34, 3) := by decide +kernel
theorem dX7_takeSign_53 : decode cX7_takeSign 53 = .ok (.iconst 1, 1) := by decide +kernel
theorem dX7_takeSign_54 : decode cX7_takeSign 54 = .ok (.iadd, 1) := by decide +kernel
theorem dX7_takeSign_55 : decode cX7_takeSign 55 = .ok (.putfield 34, 3) := by decide +kernel
theorem dX7_takeSign_58 : decode cX7_takeSign 58 = .ok (.goto 82, 3) := by decide +kernel
theorem dX7_takeSign_61 : decode cX7_takeSign 61 = .ok (.iload_n 1, 1) := by decide +kernel
theorem dX7_takeSign_62 : decode cX7_takeSign 62 = .ok (.bipush 60, 2) := by decide +kernel
theorem dX7_takeSign_64 : decode cX7_takeSign 64 = .ok (.if_icmp .ne 29, 3) := by decide +kernel
theorem dX7_takeSign_67 : decode cX7_takeSign 67 = .ok (.iload_n 2, 1) := by decide +kernel
theorem dX7_takeSign_68 : decode cX7_takeSign 68 = .ok (.bipush 62, 2) := by decide +kernel
theorem dX7_takeSign_70 : decode cX7_takeSign 70 = .ok (.if_icmp .ne 23, 3) := by decide +kernel
theorem dX7_takeSign_73 : decode cX7_takeSign 73 = .ok (.aload_n 0, 1) := by decide +kernel
theorem dX7_takeSign_74 : decode cX7_takeSign 74 = .ok (.sipush 257, 3) := by decide +kernel
theorem dX7_takeSign_77 : decode cX7_takeSign 77 = .ok (.putfield 64, 3) := by decide +kernel
theorem dX7_takeSign_80 : decode cX7_takeSign 80 = .ok (.aload_n 0, 1) := by decide +kernel
theorem dX7_takeSign_81 : decode cX7_takeSign 81 = .ok (.dup, 1) := by decide +kernel
theorem dX7_takeSign_82 : decode cX7_takeSign 82 = .ok (.getfield 34, 3) := by decide +kernel
theorem dX7_takeSign_85 : decode cX7_takeSign 85 = .ok (.iconst 1, 1) := by decide +kernel
theorem dX7_takeSign_86 : decode cX7_takeSign 86 = .ok (.iadd, 1) := by decide +kernel
theorem dX7_takeSign_87 : decode cX7_takeSign 87 = .ok (.putfield 34, 3) := by decide +kernel
theorem dX7_takeSign_90 : decode cX7_takeSign 90 = .ok (.goto 50, 3) := by decide +kernel
theorem dX7_takeSign_93 : decode cX7_takeSign 93 = .ok (.iload_n 1, 1) := by decide +kernel
theorem dX7_takeSign_94 : decode cX7_takeSign 94 = .ok (.bipush 62, 2) := by decide +kernel
theorem dX7_takeSign_96 : decode cX7_takeSign 96 = .ok (.if_icmp .ne 29, 3) := by decide +kernel
theorem dX7_takeSign_99 : decode cX7_takeSign 99 = .ok (.iload_n 2, 1) := by decide +kernel
theorem dX7_takeSign_100 : decode cX7_takeSign 100 = .ok (.bipush 61, 2) := by decide +kernel
theorem dX7_takeSign_102 : decode cX7_takeSign 102 = .ok (.if_icmp .ne 23, 3) := by decide +kernel
theorem dX7_takeSign_105 : decode cX7_takeSign 105 = .ok (.aload_n 0, 1) := by decide +kernel
theorem dX7_takeSign_106 : decode cX7_takeSign 106 = .ok (.sipush 258, 3) := by decide +kernel
theorem dX7_takeSign_109 : decode cX7_takeSign 109 = .ok (.putfield 64, 3) := by decide +kernel
theorem dX7_takeSign_112 : decode cX7_takeSign 112 = .ok (.aload_n 0, 1) := by decide +kernel
theorem dX7_takeSign_113 : decode cX7_takeSign 113 = .ok (.dup, 1) := by decide +kernel
theorem dX7_takeSign_114 : decode cX7_takeSign 114 = .ok (.getfield 34, 3) := by decide +kernel
theorem dX7_takeSign_117 : decode cX7_takeSign 117 = .ok (.iconst 1, 1) := by decide +kernel
theorem dX7_takeSign_118 : decode cX7_takeSign 118 = .ok (.iadd, 1) := by decide +kernel
theorem dX7_takeSign_119 : decode cX7_takeSign 119 = .ok (.putfield 34, 3) := by decide +kernel
theorem dX7_takeSign_122 : decode cX7_takeSign 122 = .ok (.goto 18, 3) := by decide +kernel
theorem dX7_takeSign_125 : decode cX7_takeSign 125 = .ok (.ldc 74, 2) := by decide +kernel
theorem dX7_takeSign_127 : decode cX7_takeSign 127 = .ok (.iload_n 1, 1) := by decide +kernel
theorem dX7_takeSign_128 : decode cX7_takeSign 128 = .ok (.i2c, 1) := by decide +kernel
theorem dX7_takeSign_129 : decode cX7_takeSign 129 = .ok (.invokevirtual 76, 3) := by decide +kernel
theorem dX7_takeSign_132 : decode cX7_takeSign 132 = .ok (.ifCond .ge 8, 3) := by decide +kernel
theorem dX7_takeSign_135 : decode cX7_takeSign 135 = .ok (.aload_n 0, 1) := by decide +kernel
theorem dX7_takeSign_136 : decode cX7_takeSign 136 = .ok (.iconst 1, 1) := by decide +kernel
theorem dX7_takeSign_137 : decode cX7_takeSign 137 = .ok (.putfield 44, 3) := by decide +kernel
theorem dX7_takeSign_140 : decode cX7_takeSign 140 = .ok (.return_, 1) := by decide +kernel
theorem dX7_isWord_0 : decode cX7_isWord 0 = .ok (.aload_n 0, 1) := by decide +kernel
theorem dX7_isWord_1 : decode cX7_isWord 1 = .ok (.getfield 44, 3) := by decide +kernel
theorem dX7_isWord_4 : decode cX7_isWord 4 = .ok (.iconst 4, 1) := by decide +kernel
theorem dX7_isWord_5 : decode cX7_isWord 5 = .ok (.if_icmp .ne 15, 3) := by decide +kernel
theorem dX7_isWord_8 : decode cX7_isWord 8 = .ok (.aload_n 0, 1) := by decide +kernel
theorem dX7_isWord_9 : decode cX7_isWord 9 = .ok (.getfield 64, 3) := by decide +kernel
theorem dX7_isWord_12 : decode cX7_isWord 12 = .ok (.iload_n 1, 1) := by decide +kernel
theorem dX7_isWord_13 : decode cX7_isWord 13 = .ok (.if_icmp .ne 7, 3) := by decide +kernel
theorem dX7_isWord_16 : decode cX7_isWord 16 = .ok (.iconst 1, 1) := by decide +kernel
theorem dX7_isWord_17 : decode cX7_isWord 17 = .ok (.goto 4, 3) := by decide +kernel
theorem dX7_isWord_20 : decode cX7_isWord 20 = .ok (.iconst 0, 1) := by decide +kernel
theorem dX7_isWord_21 : decode cX7_isWord 21 = .ok (.ireturn, 1) := by decide +kernel
theorem dX7_isSign_0 : decode cX7_isSign 0 = .ok (.aload_n 0, 1) := by decide +kernel
theorem dX7_isSign_1 : decode cX7_isSign 1 = .ok (.getfield 44, 3) := by decide +kernel
theorem dX7_isSign_4 : decode cX7_isSign 4 = .ok (.iconst 5, 1) := by decide +kernel
theorem dX7_isSign_5 : decode cX7_isSign 5 = .ok (.if_icmp .ne 15, 3) := by decide +kernel
theorem dX7_isSign_8 : decode cX7_isSign 8 = .ok (.aload_n 0, 1) := by decide +kernel
theorem dX7_isSign_9 : decode cX7_isSign 9 = .ok (.getfield 64, 3) := by decide +kernel
theorem dX7_isSign_12 : decode cX7_isSign 12 = .ok (.iload_n 1, 1) := by decide +kernel
theorem dX7_isSign_13 : decode cX7_isSign 13 = .ok (.if_icmp .ne 7, 3) := by decide +kernel
theorem dX7_isSign_16 : decode cX7_isSign 16 = .ok (.iconst 1, 1) := by decide +kernel
theorem dX7_isSign_17 : decode cX7_isSign 17 = .ok (.goto 4, 3) := by decide +kernel
theorem dX7_isSign_20 : decode cX7_isSign 20 = .ok (.iconst 0, 1) := by decide +kernel
theorem dX7_isSign_21 : decode cX7_isSign 21 = .ok (.ireturn, 1) := by decide +kernel
theorem dX8_init_0 : decode cX8_init 0 = .ok (.aload_n 0, 1) := by decide +kernel
theorem dX8_init_1 : decode cX8_init 1 = .ok (.invokespecial 3, 3) := by decide +kernel
theorem dX8_init_4 : decode cX8_init 4 = .ok (.aload_n 0, 1) := by decide +kernel
theorem dX8_init_5 : decode cX8_init 5 = .ok (.new 9, 3) := by decide +kernel
theorem dX8_init_8 : decode cX8_init 8 = .ok (.dup, 1) := by decide +kernel
theorem dX8_init_9 : decode cX8_init 9 = .ok (.iconst 2, 1) := by decide +kernel
theorem dX8_init_10 : decode cX8_init 10 = .ok (.bipush 6, 2) := by decide +kernel
theorem dX8_init_12 : decode cX8_init 12 = .ok (.invokespecial 11, 3) := by decide +kernel
theorem dX8_init_15 : decode cX8_init 15 = .ok (.putfield 14, 3) := by decide +kernel
theorem dX8_init_18 : decode cX8_init 18 = .ok (.aload_n 0, 1) := by decide +kernel
theorem dX8_init_19 : decode cX8_init 19 = .ok (.new 9, 3) := by decide +kernel
theorem dX8_init_22 : decode cX8_init 22 = .ok (.dup, 1) := by decide +kernel
theorem dX8_init_23 : decode cX8_init 23 = .ok (.iconst 4, 1) := by decide +kernel
theorem dX8_init_24 : decode cX8_init 24 = .ok (.bipush 9, 2) := by decide +kernel
theorem dX8_init_26 : decode cX8_init 26 = .ok (.invokespecial 11, 3) := by decide +kernel
theorem dX8_init_29 : decode cX8_init 29 = .ok (.putfield 20, 3) := by decide +kernel
theorem dX8_init_32 : decode cX8_init 32 = .ok (.aload_n 0, 1) := by decide +kernel
theorem dX8_init_33 : decode cX8_init 33 = .ok (.new 9, 3) := by decide +kernel
theorem dX8_init_36 : decode cX8_init 36 = .ok (.dup, 1) := by decide +kernel
theorem dX8_init_37 : decode cX8_init 37 = .ok (.iconst 3, 1) := by decide +kernel
theorem dX8_init_38 : decode cX8_init 38 = .ok (.iconst 4, 1) := by decide +kernel
theorem dX8_init_39 : decode cX8_init 39 = .ok (.invokespecial 11, 3) := by decide +kernel
theorem dX8_init_42 : decode cX8_init 42 = .ok (.putfield 23, 3) := by decide +kernel
theorem dX8_init_45 : decode cX8_init 45 = .ok (.aload_n 0, 1) := by decide +kernel
theorem dX8_init_46 : decode cX8_init 46 = .ok (.new 9, 3) := by decide +kernel
theorem dX8_init_49 : decode cX8_init 49 = .ok (.dup, 1) := by decide +kernel
theorem dX8_init_50 : decode cX8_init 50 = .ok (.bipush 6, 2) := by decide +kernel
theorem dX8_init_52 : decode cX8_init 52 = .ok (.bipush 13, 2) := by decide +kernel
theorem dX8_init_54 : decode cX8_init 54 = .ok (.invokespecial 11, 3) := by decide +kernel
theorem dX8_init_57 : decode cX8_init 57 = .ok (.putfield 26, 3) := by decide +kernel
theorem dX8_init_60 : decode cX8_init 60 = .ok (.aload_n 0, 1) := by decide +kernel
theorem dX8_init_61 : decode cX8_init 61 = .ok (.new 9, 3) := by decide +kernel
theorem dX8_init_64 : decode cX8_init 64 = .ok (.dup, 1) := by decide +kernel
theorem dX8_init_65 : decode cX8_init 65 = .ok (.iconst 4, 1) := by decide +kernel
theorem dX8_init_66 : decode cX8_init 66 = .ok (.bipush 16, 2) := by decide +kernel
theorem dX8_init_68 : decode cX8_init 68 = .ok (.invokespecial 11, 3) := by decide +kernel
theorem dX8_init_71 : decode cX8_init 71 = .ok (.putfield 29, 3) := by decide +kernel
theorem dX8_init_74 : decode cX8_init 74 = .ok (.aload_n 0, 1) := by decide +kernel
theorem dX8_init_75 : decode cX8_init 75 = .ok (.new 9, 3) := by decide +kernel
theorem dX8_init_78 : decode cX8_init 78 = .ok (.dup, 1) := by decide +kernel
theorem dX8_init_79 : decode cX8_init 79 = .ok (.iconst 4, 1) := by decide +kernel
theorem dX8_init_80 : decode cX8_init 80 = .ok (.bipush 6, 2) := by decide +kernel
theorem dX8_init_82 : decode cX8_init 82 = .ok (.invokespecial 11, 3) := by decide +kernel
theorem dX8_init_85 : decode cX8_init 85 = .ok (.putfield 32, 3) := by decide +kernel
theorem dX8_init_88 : decode cX8_init 88 = .ok (.aload_n 0, 1) := by decide +kernel
theorem dX8_init_89 : decode cX8_init 89 = .ok (.new 9, 3) := by decide +kernel
theorem dX8_init_92 : decode cX8_init 92 = .ok (.dup, 1) := by decide +kernel
theorem dX8_init_93 : decode cX8_init 93 = .ok (.iconst 4, 1) := by decide +kernel
theorem dX8_init_94 : decode cX8_init 94 = .ok (.iconst 4, 1) := by decide +kernel
theorem dX8_init_95 : decode cX8_init 95 = .ok (.invokespecial 11, 3) := by decide +kernel
theorem dX8_init_98 : decode cX8_init 98 = .ok (.putfield 35, 3) := by decide +kernel
theorem dX8_init_101 : decode cX8_init 101 = .ok (.aload_n 0, 1) := by decide +kernel
theorem dX8_init_102 : decode cX8_init 102 = .ok (.new 38, 3) := by decide +kernel
theorem dX8_init_105 : decode cX8_init 105 = .ok (.dup, 1) := by decide +kernel
theorem dX8_init_106 : decode cX8_init 106 = .ok (.invokespecial 40, 3) := by decide +kernel
theorem dX8_init_109 : decode cX8_init 109 = .ok (.putfield 41, 3) := by decide +kernel
theorem dX8_init_112 : decode cX8_init 112 = .ok (.aload_n 0, 1) := by decide +kernel
theorem dX8_init_113 : decode cX8_init 113 = .ok (.new 38, 3) := by decide +kernel
theorem dX8_init_116 : decode cX8_init 116 = .ok (.dup, 1) := by decide +kernel
theorem dX8_init_117 : decode cX8_init 117 = .ok (.invokespecial 40, 3) := by decide +kernel
theorem dX8_init_120 : decode cX8_init 120 = .ok (.putfield 45, 3) := by decide +kernel
theorem dX8_init_123 : decode cX8_init 123 = .ok (.aload_n 0, 1) := by decide +kernel
theorem dX8_init_124 : decode cX8_init 124 = .ok (.iconst 5, 1) := by decide +kernel
theorem dX8_init_125 : decode cX8_init 125 = .ok (.putfield 48, 3) := by decide +kernel
theorem dX8_init_128 : decode cX8_init 128 = .ok (.aload_n 0, 1) := by decide +kernel
theorem dX8_init_129 : decode cX8_init 129 = .ok (.iconst 1, 1) := by decide +kernel
theorem dX8_init_130 : decode cX8_init 130 = .ok (.putfield 52, 3) := by decide +kernel
theorem dX8_init_133 : decode cX8_init 133 = .ok (.return_, 1) := by decide +kernel
theorem dX8_clear_0 : decode cX8_clear 0 = .ok (.aload_n 0, 1) := by decide +kernel
theorem dX8_clear_1 : decode cX8_clear 1 = .ok (.getfield 14, 3) := by decide +kernel
theorem dX8_clear_4 : decode cX8_clear 4 = .ok (.invokevirtual 55, 3) := by decide +kernel
theorem dX8_clear_7 : decode cX8_clear 7 = .ok (.aload_n 0, 1) := by decide +kernel
theorem dX8_clear_8 : decode cX8_clear 8 = .ok (.getfield 20, 3) := by decide +kernel
theorem dX8_clear_11 : decode cX8_clear 11 = .ok (.invokevirtual 55, 3) := by decide +kernel
theorem dX8_clear_14 : decode cX8_clear 14 = .ok (.aload_n 0, 1) := by decide +kernel
theorem dX8_clear_15 : decode cX8_clear 15 = .ok (.getfield 23, 3) := by decide +kernel
theorem dX8_clear_18 : decode cX8_clear 18 = .ok (.invokevirtual 55, 3) := by decide +kernel
theorem dX8_clear_21 : decode cX8_clear 21 = .ok (.aload_n 0, 1) := by decide +kernel
theorem dX8_clear_22 : decode cX8_clear 22 = .ok (.getfield 26, 3) := by decide +kernel
theorem dX8_clear_25 : decode cX8_clear 25 = .ok (.invokevirtual 55, 3) := by decide +kernel
theorem dX8_clear_28 : decode cX8_clear 28 = .ok (.aload_n 0, 1) := by decide +kernel
theorem dX8_clear_29 : decode cX8_clear 29 = .ok (.getfield 29, 3) := by decide +kernel
theorem dX8_clear_32 : decode cX8_clear 32 = .ok (.invokevirtual 55, 3) := by decide +kernel
theorem dX8_clear_35 : decode cX8_clear 35 = .ok (.aload_n 0, 1) := by decide +kernel
theorem dX8_clear_36 : decode cX8_clear 36 = .ok (.getfield 32, 3) := by decide +kernel
theorem dX8_clear_39 : decode cX8_clear 39 = .ok (.invokevirtual 55, 3) := by decide +kernel
theorem dX8_clear_42 : decode cX8_clear 42 = .ok (.aload_n 0, 1) := by decide +kernel
theorem dX8_clear_43 : decode cX8_clear 43 = .ok (.getfield 35, 3) := by decide +kernel
theorem dX8_clear_46 : decode cX8_clear 46 = .ok (.invokevirtual 55, 3) := by decide +kernel
theorem dX8_clear_49 : decode cX8_clear 49 = .ok (.aload_n 0, 1) := by decide +kernel
theorem dX8_clear_50 : decode cX8_clear 50 = .ok (.getfield 41, 3) := by decide +kernel
theorem dX8_clear_53 : decode cX8_clear 53 = .ok (.invokevirtual 58, 3) := by decide +kernel
theorem dX8_clear_56 : decode cX8_clear 56 = .ok (.aload_n 0, 1) := by decide +kernel
theorem dX8_clear_57 : decode cX8_clear 57 = .ok (.getfield 45, 3) := by decide +kernel
theorem dX8_clear_60 : decode cX8_clear 60 = .ok (.invokevirtual 58, 3) := by decide +kernel
theorem dX8_clear_63 : decode cX8_clear 63 = .ok (.aload_n 0, 1) := by decide +kernel
theorem dX8_clear_64 : decode cX8_clear 64 = .ok (.iconst 5, 1) := by decide +kernel
theorem dX8_clear_65 : decode cX8_clear 65 = .ok (.putfield 48, 3) := by decide +kernel
theorem dX8_clear_68 : decode cX8_clear 68 = .ok (.aload_n 0, 1) := by decide +kernel
theorem dX8_clear_69 : decode cX8_clear 69 = .ok (.iconst 1, 1) := by decide +kernel
theorem dX8_clear_70 : decode cX8_clear 70 = .ok (.putfield 52, 3) := by decide +kernel
theorem dX8_clear_73 : decode cX8_clear 73 = .ok (.aload_n 0, 1) := by decide +kernel
theorem dX8_clear_74 : decode cX8_clear 74 = .ok (.iconst 0, 1) := by decide +kernel
theorem dX8_clear_75 : decode cX8_clear 75 = .ok (.putfield 59, 3) := by decide +kernel
theorem dX8_clear_78 : decode cX8_clear 78 = .ok (.aload_n 0, 1) := by decide +kernel
theorem dX8_clear_79 : decode cX8_clear 79 = .ok (.iconst 0, 1) := by decide +kernel
theorem dX8_clear_80 : decode cX8_clear 80 = .ok (.putfield 62, 3) := by decide +kernel
theorem dX8_clear_83 : decode cX8_clear 83 = .ok (.return_, 1) := by decide +kernel
theorem dX8_copyFrom_0 : decode cX8_copyFrom 0 = .ok (.aload_n 0, 1) := by decide +kernel
theorem dX8_copyFrom_1 : decode cX8_copyFrom 1 = .ok (.getfield 14, 3) := by decide +kernel
theorem dX8_copyFrom_4 : decode cX8_copyFrom 4 = .ok (.aload_n 1, 1) := by decide +kernel
theorem dX8_copyFrom_5 : decode cX8_copyFrom 5 = .ok (.getfield 14, 3) := by decide +kernel
theorem dX8_copyFrom_8 : decode cX8_copyFrom 8 = .ok (.invokevirtual 65, 3) := by decide +kernel
theorem dX8_copyFrom_11 : decode cX8_copyFrom 11 = .ok (.aload_n 0, 1) := by decide +kernel
theorem dX8_copyFrom_12 : decode cX8_copyFrom 12 = .ok (.getfield 20, 3) := by decide +kernel
theorem dX8_copyFrom_15 : decode cX8_copyFrom 15 = .ok (.aload_n 1, 1) := by decide +kernel
theorem dX8_copyFrom_16 : decode cX8_copyFrom 16 = .ok (.getfield 20, 3) := by decide +kernel
theorem dX8_copyFrom_19 : decode cX8_copyFrom 19 = .ok (.invokevirtual 65, 3) := by decide +kernel
theorem dX8_copyFrom_22 : decode cX8_copyFrom 22 = .ok (.aload_n 0, 1) := by decide +kernel
theorem dX8_copyFrom_23 : decode cX8_copyFrom 23 = .ok (.getfield 23, 3) := by decide +kernel
theorem dX8_copyFrom_26 : decode cX8_copyFrom 26 = .ok (.aload_n 1, 1) := by decide +kernel
theorem dX8_copyFrom_27 : decode cX8_copyFrom 27 = .ok (.getfield 23, 3) := by decide +kernel
theorem dX8_copyFrom_30 : decode cX8_copyFrom 30 = .ok (.invokevirtual 65, 3) := by decide +kernel
theorem dX8_copyFrom_33 : decode cX8_copyFrom 33 = .ok (.aload_n 0, 1) := by decide +kernel
theorem dX8_copyFrom_34 : decode cX8_copyFrom 34 = .ok (.getfield 26, 3) := by decide +kernel
theorem dX8_copyFrom_37 : decode cX8_copyFrom 37 = .ok (.aload_n 1, 1) := by decide +kernel
theorem dX8_copyFrom_38 : decode cX8_copyFrom 38 = .ok (.getfield 26, 3) := by decide +kernel
theorem dX8_copyFrom_41 : decode cX8_copyFrom 41 = .ok (.invokevirtual 65, 3) := by decide +kernel
theorem dX8_copyFrom_44 : decode cX8_copyFrom 44 = .ok (.aload_n 0, 1) := by decide +kernel
theorem dX8_copyFrom_45 : decode cX8_copyFrom 45 = .ok (.getfield 29, 3) := by decide +kernel
theorem dX8_copyFrom_48 : decode cX8_copyFrom 48 = .ok (.aload_n 1, 1) := by decide +kernel
theorem dX8_copyFrom_49 : decode cX8_copyFrom 49 = .ok (.getfield 29, 3) := by decide +kernel
theorem dX8_copyFrom_52 : decode cX8_copyFrom 52 = .ok (.invokevirtual 65, 3) := by decide +kernel
theorem dX8_copyFrom_55 : decode cX8_copyFrom 55 = .ok (.aload_n 0, 1) := by decide +kernel
theorem dX8_copyFrom_56 : decode cX8_copyFrom 56 = .ok (.getfield 32, 3) := by decide +kernel
theorem dX8_copyFrom_59 : decode cX8_copyFrom 59 = .ok (.aload_n 1, 1) := by decide +kernel
theorem dX8_copyFrom_60 : decode cX8_copyFrom 60 = .ok (.getfield 32, 3) := by decide +kernel
theorem dX8_copyFrom_63 : decode cX8_copyFrom 63 = .ok (.invokevirtual 65, 3) := by decide +kernel
theorem dX8_copyFrom_66 : decode cX8_copyFrom 66 = .ok (.aload_n 0, 1) := by decide +kernel
theorem dX8_copyFrom_67 : decode cX8_copyFrom 67 = .ok (.getfield 35, 3) := by decide +kernel
theorem dX8_copyFrom_70 : decode cX8_copyFrom 70 = .ok (.aload_n 1, 1) := by decide +kernel
theorem dX8_copyFrom_71 : decode cX8_copyFrom 71 = .ok (.getfield 35, 3) := by decide +kernel
theorem dX8_copyFrom_74 : decode cX8_copyFrom 74 = .ok (.invokevirtual 65, 3) := by decide +kernel
theorem dX8_copyFrom_77 : decode cX8_copyFrom 77 = .ok (.aload_n 0, 1) := by decide +kernel
theorem dX8_copyFrom_78 : decode cX8_copyFrom 78 = .ok (.getfield 41, 3) := by decide +kernel
theorem dX8_copyFrom_81 : decode cX8_copyFrom 81 = .ok (.aload_n 1, 1) := by decide +kernel
theorem dX8_copyFrom_82 : decode cX8_copyFrom 82 = .ok (.getfield 41, 3) := by decide +kernel
theorem dX8_copyFrom_85 : decode cX8_copyFrom 85 = .ok (.invokevirtual 69, 3) := by decide +kernel
theorem dX8_copyFrom_88 : decode cX8_copyFrom 88 = .ok (.aload_n 0, 1) := by decide +kernel
theorem dX8_copyFrom_89 : decode cX8_copyFrom 89 = .ok (.getfield 45, 3) := by decide +kernel
theorem dX8_copyFrom_92 : decode cX8_copyFrom 92 = .ok (.aload_n 1, 1) := by decide +kernel
theorem dX8_copyFrom_93 : decode cX8_copyFrom 93 = .ok (.getfield 45, 3) := by decide +kernel
theorem dX8_copyFrom_96 : decode cX8_copyFrom 96 = .ok (.invokevirtual 69, 3) := by decide +kernel
theorem dX8_copyFrom_99 : decode cX8_copyFrom 99 = .ok (.aload_n 0, 1) := by decide +kernel
theorem dX8_copyFrom_100 : decode cX8_copyFrom 100 = .ok (.aload_n 1, 1) := by decide +kernel
theorem dX8_copyFrom_101 : decode cX8_copyFrom 101 = .ok (.getfield 48, 3) := by decide +kernel
theorem dX8_copyFrom_104 : decode cX8_copyFrom 104 = .ok (.putfield 48, 3) := by decide +kernel
theorem dX8_copyFrom_107 : decode cX8_copyFrom 107 = .ok (.aload_n 0, 1) := by decide +kernel
theorem dX8_copyFrom_108 : decode cX8_copyFrom 108 = .ok (.aload_n 1, 1) := by decide +kernel
theorem dX8_copyFrom_109 : decode cX8_copyFrom 109 = .ok (.getfield 52, 3) := by decide +kernel
theorem dX8_copyFrom_112 : decode cX8_copyFrom 112 = .ok (.putfield 52, 3) := by decide +kernel
theorem dX8_copyFrom_115 : decode cX8_copyFrom 115 = .ok (.aload_n 0, 1) := by decide +kernel
theorem dX8_copyFrom_116 : decode cX8_copyFrom 116 = .ok (.aload_n 1, 1) := by decide +kernel
theorem dX8_copyFrom_117 : decode cX8_copyFrom 117 = .ok (.getfield 59, 3) := by decide +kernel
theorem dX8_copyFrom_120 : decode cX8_copyFrom 120 = .ok (.putfield 59, 3) := by decide +kernel
theorem dX8_copyFrom_123 : decode cX8_copyFrom 123 = .ok (.aload_n 0, 1) := by decide +kernel
theorem dX8_copyFrom_124 : decode cX8_copyFrom 124 = .ok (.aload_n 1, 1) := by decide +kernel
theorem dX8_copyFrom_125 : decode cX8_copyFrom 125 = .ok (.getfield 62, 3) := by decide +kernel
theorem dX8_copyFrom_128 : decode cX8_copyFrom 128 = .ok (.putfield 62, 3) := by decide +kernel
theorem dX8_copyFrom_131 : decode cX8_copyFrom 131 = .ok (.return_, 1) := by decide +kernel
theorem dX8_dogs_0 : decode cX8_dogs 0 = .ok (.iconst 0, 1) := by decide +kernel
theorem dX8_dogs_1 : decode cX8_dogs 1 = .ok (.istore_n 1, 1) := by decide +kernel
theorem dX8_dogs_2 : decode cX8_dogs 2 = .ok (.iconst 0, 1) := by decide +kernel
theorem dX8_dogs_3 : decode cX8_dogs 3 = .ok (.istore_n 2, 1) := by decide +kernel
theorem dX8_dogs_4 : decode cX8_dogs 4 = .ok (.iload_n 2, 1) := by decide +kernel
theorem dX8_dogs_5 : decode cX8_dogs 5 = .ok (.aload_n 0, 1) := by decide +kernel
theorem dX8_dogs_6 : decode cX8_dogs 6 = .ok (.getfield 14, 3) := by decide +kernel
theorem dX8_dogs_9 : decode cX8_dogs 9 = .ok (.getfield 72, 3) := by decide +kernel
theorem dX8_dogs_12 : decode cX8_dogs 12 = .ok (.if_icmp .ge 27, 3) := by decide +kernel
theorem dX8_dogs_15 : decode cX8_dogs 15 = .ok (.aload_n 0, 1) := by decide +kernel
theorem dX8_dogs_16 : decode cX8_dogs 16 = .ok (.getfield 14, 3) := by decide +kernel
theorem dX8_dogs_19 : decode cX8_dogs 19 = .ok (.iload_n 2, 1) := by decide +kernel
theorem dX8_dogs_20 : decode cX8_dogs 20 = .ok (.iconst 1, 1) := by decide +kernel
theorem dX8_dogs_21 : decode cX8_dogs 21 = .ok (.invokevirtual 75, 3) := by decide +kernel
theorem dX8_dogs_24 : decode cX8_dogs 24 = .ok (.ifCond .le 9, 3) := by decide +kernel
theorem dX8_dogs_27 : decode cX8_dogs 27 = .ok (.iload_n 1, 1) := by decide +kernel
theorem dX8_dogs_28 : decode cX8_dogs 28 = .ok (.iconst 1, 1) := by decide +kernel
theorem dX8_dogs_29 : decode cX8_dogs 29 = .ok (.iload_n 2, 1) := by decide +kernel
theorem dX8_dogs_30 : decode cX8_dogs 30 = .ok (.ishl, 1) := by decide +kernel
theorem dX8_dogs_31 : decode cX8_dogs 31 = .ok (.ior, 1) := by decide +kernel
theorem dX8_dogs_32 : decode cX8_dogs 32 = .ok (.istore_n 1, 1) := by decide +kernel
theorem dX8_dogs_33 : decode cX8_dogs 33 = .ok (.iinc 2 1, 3) := by decide +kernel
theorem dX8_dogs_36 : decode cX8_dogs 36 = .ok (.goto (-32), 3) := by decide +kernel
theorem dX8_dogs_39 : decode cX8_dogs 39 = .ok (.iload_n 1, 1) := by decide +kernel
theorem dX8_dogs_40 : decode cX8_dogs 40 = .ok (.ireturn, 1) := by decide +kernel
theorem dX8_pay_0 : decode cX8_pay 0 = .ok (.aload_n 0, 1) := by decide +kernel
theorem dX8_pay_1 : decode cX8_pay 1 = .ok (.getfield 23, 3) := by decide +kernel
theorem dX8_pay_4 : decode cX8_pay 4 = .ok (.iload_n 1, 1) := by decide +kernel
theorem dX8_pay_5 : decode cX8_pay 5 = .ok (.iconst 1, 1) := by decide +kernel
theorem dX8_pay_6 : decode cX8_pay 6 = .ok (.aload_n 0, 1) := by decide +kernel
theorem dX8_pay_7 : decode cX8_pay 7 = .ok (.getfield 23, 3) := by decide +kernel
theorem dX8_pay_10 : decode cX8_pay 10 = .ok (.iload_n 1, 1) := by decide +kernel
theorem dX8_pay_11 : decode cX8_pay 11 = .ok (.iconst 1, 1) := by decide +kernel
theorem dX8_pay_12 : decode cX8_pay 12 = .ok (.invokevirtual 75, 3) := by decide +kernel
theorem dX8_pay_15 : decode cX8_pay 15 = .ok (.iload_n 3, 1) := by decide +kernel
theorem dX8_pay_16 : decode cX8_pay 16 = .ok (.isub, 1) := by decide +kernel
theorem dX8_pay_17 : decode cX8_pay 17 = .ok (.invokevirtual 79, 3) := by decide +kernel
theorem dX8_pay_20 : decode cX8_pay 20 = .ok (.aload_n 0, 1) := by decide +kernel
theorem dX8_pay_21 : decode cX8_pay 21 = .ok (.getfield 23, 3) := by decide +kernel
theorem dX8_pay_24 : decode cX8_pay 24 = .ok (.iload_n 2, 1) := by decide +kernel
theorem dX8_pay_25 : decode cX8_pay 25 = .ok (.iconst 1, 1) := by decide +kernel
theorem dX8_pay_26 : decode cX8_pay 26 = .ok (.aload_n 0, 1) := by decide +kernel
theorem dX8_pay_27 : decode cX8_pay 27 = .ok (.getfield 23, 3) := by decide +kernel
theorem dX8_pay_30 : decode cX8_pay 30 = .ok (.iload_n 2, 1) := by decide +kernel
theorem dX8_pay_31 : decode cX8_pay 31 = .ok (.iconst 1, 1) := by decide +kernel
theorem dX8_pay_32 : decode cX8_pay 32 = .ok (.invokevirtual 75, 3) := by decide +kernel
theorem dX8_pay_35 : decode cX8_pay 35 = .ok (.iload_n 3, 1) := by decide +kernel
theorem dX8_pay_36 : decode cX8_pay 36 = .ok (.iadd, 1) := by decide +kernel
theorem dX8_pay_37 : decode cX8_pay 37 = .ok (.invokevirtual 79, 3) := by decide +kernel
theorem dX8_pay_40 : decode cX8_pay 40 = .ok (.return_, 1) := by decide +kernel
theorem dX8_hasRight_0 : decode cX8_hasRight 0 = .ok (.iconst 0, 1) := by decide +kernel
theorem dX8_hasRight_1 : decode cX8_hasRight 1 = .ok (.istore 4, 2) := by decide +kernel
theorem dX8_hasRight_3 : decode cX8_hasRight 3 = .ok (.iload 4, 2) := by decide +kernel
theorem dX8_hasRight_5 : decode cX8_hasRight 5 = .ok (.aload_n 0, 1) := by decide +kernel
theorem dX8_hasRight_6 : decode cX8_hasRight 6 = .ok (.getfield 32, 3) := by decide +kernel
theorem dX8_hasRight_9 : decode cX8_hasRight 9 = .ok (.getfield 72, 3) := by decide +kernel
theorem dX8_hasRight_12 : decode cX8_hasRight 12 = .ok (.if_icmp .ge 67, 3) := by decide +kernel
theorem dX8_hasRight_15 : decode cX8_hasRight 15 = .ok (.aload_n 0, 1) := by decide +kernel
theorem dX8_hasRight_16 : decode cX8_hasRight 16 = .ok (.getfield 32, 3) := by decide +kernel
theorem dX8_hasRight_19 : decode cX8_hasRight 19 = .ok (.iload 4, 2) := by decide +kernel
theorem dX8_hasRight_21 : decode cX8_hasRight 21 = .ok (.iconst 0, 1) := by decide +kernel
theorem dX8_hasRight_22 : decode cX8_hasRight 22 = .ok (.invokevirtual 75, 3) := by decide +kernel
theorem dX8_hasRight_25 : decode cX8_hasRight 25 = .ok (.iload_n 1, 1) := by decide +kernel
theorem dX8_hasRight_26 : decode cX8_hasRight 26 = .ok (.if_icmp .ne 47, 3) := by decide +kernel
theorem dX8_hasRight_29 : decode cX8_hasRight 29 = .ok (.aload_n 0, 1) := by decide +kernel
theorem dX8_hasRight_30 : decode cX8_hasRight 30 = .ok (.getfield 32, 3) := by decide +kernel
theorem dX8_hasRight_33 : decode cX8_hasRight 33 = .ok (.iload 4, 2) := by decide +kernel
theorem dX8_hasRight_35 : decode cX8_hasRight 35 = .ok (.iconst 1, 1) := by decide +kernel
theorem dX8_hasRight_36 : decode cX8_hasRight 36 = .ok (.invokevirtual 75, 3) := by decide +kernel
theorem dX8_hasRight_39 : decode cX8_hasRight 39 = .ok (.iload_n 2, 1) := by decide +kernel
theorem dX8_hasRight_40 : decode cX8_hasRight 40 = .ok (.if_icmp .ne 33, 3) := by decide +kernel
theorem dX8_hasRight_43 : decode cX8_hasRight 43 = .ok (.aload_n 0, 1) := by decide +kernel
theorem dX8_hasRight_44 : decode cX8_hasRight 44 = .ok (.getfield 32, 3) := by decide +kernel
theorem dX8_hasRight_47 : decode cX8_hasRight 47 = .ok (.iload 4, 2) := by decide +kernel
theorem dX8_hasRight_49 : decode cX8_hasRight 49 = .ok (.iconst 2, 1) := by decide +kernel
theorem dX8_hasRight_50 : decode cX8_hasRight 50 = .ok (.invokevirtual 75, 3) := by decide +kernel
theorem dX8_hasRight_53 : decode cX8_hasRight 53 = .ok (.iload_n 3, 1) := by decide +kernel
theorem dX8_hasRight_54 : decode cX8_hasRight 54 = .ok (.if_icmp .gt 19, 3) := by decide +kernel
theorem dX8_hasRight_57 : decode cX8_hasRight 57 = .ok (.aload_n 0, 1) := by decide +kernel
theorem dX8_hasRight_58 : decode cX8_hasRight 58 = .ok (.getfield 32, 3) := by decide +kernel
theorem dX8_hasRight_61 : decode cX8_hasRight 61 = .ok (.iload 4, 2) := by decide +kernel
theorem dX8_hasRight_63 : decode cX8_hasRight 63 = .ok (.iconst 3, 1) := by decide +kernel
theorem dX8_hasRight_64 : decode cX8_hasRight 64 = .ok (.invokevirtual 75, 3) := by decide +kernel
theorem dX8_hasRight_67 : decode cX8_hasRight 67 = .ok (.iload_n 3, 1) := by decide +kernel
theorem dX8_hasRight_68 : decode cX8_hasRight 68 = .ok (.if_icmp .lt 5, 3) := by decide +kernel
theorem dX8_hasRight_71 : decode cX8_hasRight 71 = .ok (.iconst 1, 1) := by decide +kernel
theorem dX8_hasRight_72 : decode cX8_hasRight 72 = .ok (.ireturn, 1) := by decide +kernel
theorem dX8_hasRight_73 : decode cX8_hasRight 73 = .ok (.iinc 4 1, 3) := by decide +kernel
theorem dX8_hasRight_76 : decode cX8_hasRight 76 = .ok (.goto (-73), 3) := by decide +kernel
theorem dX8_hasRight_79 : decode cX8_hasRight 79 = .ok (.iconst 0, 1) := by decide +kernel
theorem dX8_hasRight_80 : decode cX8_hasRight 80 = .ok (.ireturn, 1) := by decide +kernel
theorem dX8_silence_0 : decode cX8_silence 0 = .ok (.iconst 0, 1) := by decide +kernel
theorem dX8_silence_1 : decode cX8_silence 1 = .ok (.istore_n 2, 1) := by decide +kernel
theorem dX8_silence_2 : decode cX8_silence 2 = .ok (.iload_n 2, 1) := by decide +kernel
theorem dX8_silence_3 : decode cX8_silence 3 = .ok (.aload_n 0, 1) := by decide +kernel
theorem dX8_silence_4 : decode cX8_silence 4 = .ok (.getfield 26, 3) := by decide +kernel
theorem dX8_silence_7 : decode cX8_silence 7 = .ok (.getfield 72, 3) := by decide +kernel
theorem dX8_silence_10 : decode cX8_silence 10 = .ok (.if_icmp .ge 32, 3) := by decide +kernel
theorem dX8_silence_13 : decode cX8_silence 13 = .ok (.aload_n 0, 1) := by decide +kernel
theorem dX8_silence_14 : decode cX8_silence 14 = .ok (.getfield 26, 3) := by decide +kernel
theorem dX8_silence_17 : decode cX8_silence 17 = .ok (.iload_n 2, 1) := by decide +kernel
theorem dX8_silence_18 : decode cX8_silence 18 = .ok (.iconst 1, 1) := by decide +kernel
theorem dX8_silence_19 : decode cX8_silence 19 = .ok (.invokevirtual 75, 3) := by decide +kernel
theorem dX8_silence_22 : decode cX8_silence 22 = .ok (.iload_n 1, 1) := by decide +kernel
theorem dX8_silence_23 : decode cX8_silence 23 = .ok (.if_icmp .ne 13, 3) := by decide +kernel
theorem dX8_silence_26 : decode cX8_silence 26 = .ok (.aload_n 0, 1) := by decide +kernel
theorem dX8_silence_27 : decode cX8_silence 27 = .ok (.getfield 26, 3) := by decide +kernel
theorem dX8_silence_30 : decode cX8_silence 30 = .ok (.iload_n 2, 1) := by decide +kernel
theorem dX8_silence_31 : decode cX8_silence 31 = .ok (.iconst 5, 1) := by decide +kernel
theorem dX8_silence_32 : decode cX8_silence 32 = .ok (.iconst 1, 1) := by decide +kernel
theorem dX8_silence_33 : decode cX8_silence 33 = .ok (.invokevirtual 79, 3) := by decide +kernel
theorem dX8_silence_36 : decode cX8_silence 36 = .ok (.iinc 2 1, 3) := by decide +kernel
theorem dX8_silence_39 : decode cX8_silence 39 = .ok (.goto (-37), 3) := by decide +kernel
theorem dX8_silence_42 : decode cX8_silence 42 = .ok (.return_, 1) := by decide +kernel
theorem dX8_muffle_0 : decode cX8_muffle 0 = .ok (.iconst 0, 1) := by decide +kernel
theorem dX8_muffle_1 : decode cX8_muffle 1 = .ok (.istore_n 1, 1) := by decide +kernel
theorem dX8_muffle_2 : decode cX8_muffle 2 = .ok (.iload_n 1, 1) := by decide +kernel
theorem dX8_muffle_3 : decode cX8_muffle 3 = .ok (.aload_n 0, 1) := by decide +kernel
theorem dX8_muffle_4 : decode cX8_muffle 4 = .ok (.getfield 26, 3) := by decide +kernel
theorem dX8_muffle_7 : decode cX8_muffle 7 = .ok (.getfield 72, 3) := by decide +kernel
theorem dX8_muffle_10 : decode cX8_muffle 10 = .ok (.if_icmp .ge 46, 3) := by decide +kernel
theorem dX8_muffle_13 : decode cX8_muffle 13 = .ok (.aload_n 0, 1) := by decide +kernel
theorem dX8_muffle_14 : decode cX8_muffle 14 = .ok (.getfield 26, 3) := by decide +kernel
theorem dX8_muffle_17 : decode cX8_muffle 17 = .ok (.iload_n 1, 1) := by decide +kernel
theorem dX8_muffle_18 : decode cX8_muffle 18 = .ok (.iconst 4, 1) := by decide +kernel
theorem dX8_muffle_19 : decode cX8_muffle 19 = .ok (.invokevirtual 75, 3) := by decide +kernel
theorem dX8_muffle_22 : decode cX8_muffle 22 = .ok (.iconst 5, 1) := by decide +kernel
theorem dX8_muffle_23 : decode cX8_muffle 23 = .ok (.isub, 1) := by decide +kernel
theorem dX8_muffle_24 : decode cX8_muffle 24 = .ok (.istore_n 2, 1) := by decide +kernel
theorem dX8_muffle_25 : decode cX8_muffle 25 = .ok (.aload_n 0, 1) := by decide +kernel
theorem dX8_muffle_26 : decode cX8_muffle 26 = .ok (.getfield 26, 3) := by decide +kernel
theorem dX8_muffle_29 : decode cX8_muffle 29 = .ok (.iload_n 1, 1) := by decide +kernel
theorem dX8_muffle_30 : decode cX8_muffle 30 = .ok (.iconst 4, 1) := by decide +kernel
theorem dX8_muffle_31 : decode cX8_muffle 31 = .ok (.iload_n 2, 1) := by decide +kernel
theorem dX8_muffle_32 : decode cX8_muffle 32 = .ok (.invokevirtual 79, 3) := by decide +kernel
theorem dX8_muffle_35 : decode cX8_muffle 35 = .ok (.iload_n 2, 1) := by decide +kernel
theorem dX8_muffle_36 : decode cX8_muffle 36 = .ok (.iconst 1, 1) := by decide +kernel
theorem dX8_muffle_37 : decode cX8_muffle 37 = .ok (.if_icmp .ge 13, 3) := by decide +kernel
theorem dX8_muffle_40 : decode cX8_muffle 40 = .ok (.aload_n 0, 1) := by decide +kernel
theorem dX8_muffle_41 : decode cX8_muffle 41 = .ok (.getfield 26, 3) := by decide +kernel
theorem dX8_muffle_44 : decode cX8_muffle 44 = .ok (.iload_n 1, 1) := by decide +kernel
theorem dX8_muffle_45 : decode cX8_muffle 45 = .ok (.iconst 5, 1) := by decide +kernel
theorem dX8_muffle_46 : decode cX8_muffle 46 = .ok (.iconst 1, 1) := by decide +kernel
theorem dX8_muffle_47 : decode cX8_muffle 47 = .ok (.invokevirtual 79, 3) := by decide +kernel
theorem dX8_muffle_50 : decode cX8_muffle 50 = .ok (.iinc 1 1, 3) := by decide +kernel
theorem dX8_muffle_53 : decode cX8_muffle 53 = .ok (.goto (-51), 3) := by decide +kernel
theorem dX8_muffle_56 : decode cX8_muffle 56 = .ok (.return_, 1) := by decide +kernel
theorem dX9_init_0 : decode cX9_init 0 = .ok (.aload_n 0, 1) := by decide +kernel
theorem dX9_init_1 : decode cX9_init 1 = .ok (.invokespecial 1, 3) := by decide +kernel
theorem dX9_init_4 : decode cX9_init 4 = .ok (.aload_n 0, 1) := by decide +kernel
theorem dX9_init_5 : decode cX9_init 5 = .ok (.sipush 700, 3) := by decide +kernel
theorem dX9_init_8 : decode cX9_init 8 = .ok (.newarray .byte, 2) := by decide +kernel
theorem dX9_init_10 : decode cX9_init 10 = .ok (.putfield 9, 3) := by decide +kernel
theorem dX9_init_13 : decode cX9_init 13 = .ok (.aload_n 0, 1) := by decide +kernel
theorem dX9_init_14 : decode cX9_init 14 = .ok (.new 13, 3) := by decide +kernel
theorem dX9_init_17 : decode cX9_init 17 = .ok (.dup, 1) := by decide +kernel
theorem dX9_init_18 : decode cX9_init 18 = .ok (.invokespecial 15, 3) := by decide +kernel
theorem dX9_init_21 : decode cX9_init 21 = .ok (.putfield 16, 3) := by decide +kernel
theorem dX9_init_24 : decode cX9_init 24 = .ok (.aload_n 0, 1) := by decide +kernel
theorem dX9_init_25 : decode cX9_init 25 = .ok (.new 20, 3) := by decide +kernel
theorem dX9_init_28 : decode cX9_init 28 = .ok (.dup, 1) := by decide +kernel
theorem dX9_init_29 : decode cX9_init 29 = .ok (.invokespecial 22, 3) := by decide +kernel
theorem dX9_init_32 : decode cX9_init 32 = .ok (.putfield 23, 3) := by decide +kernel
theorem dX9_init_35 : decode cX9_init 35 = .ok (.aload_n 0, 1) := by decide +kernel
theorem dX9_init_36 : decode cX9_init 36 = .ok (.new 20, 3) := by decide +kernel
theorem dX9_init_39 : decode cX9_init 39 = .ok (.dup, 1) := by decide +kernel
theorem dX9_init_40 : decode cX9_init 40 = .ok (.invokespecial 22, 3) := by decide +kernel
theorem dX9_init_43 : decode cX9_init 43 = .ok (.putfield 27, 3) := by decide +kernel
theorem dX9_init_46 : decode cX9_init 46 = .ok (.aload_n 0, 1) := by decide +kernel
theorem dX9_init_47 : decode cX9_init 47 = .ok (.new 20, 3) := by decide +kernel
theorem dX9_init_50 : decode cX9_init 50 = .ok (.dup, 1) := by decide +kernel
theorem dX9_init_51 : decode cX9_init 51 = .ok (.invokespecial 22, 3) := by decide +kernel
theorem dX9_init_54 : decode cX9_init 54 = .ok (.putfield 30, 3) := by decide +kernel
theorem dX9_init_57 : decode cX9_init 57 = .ok (.aload_n 0, 1) := by decide +kernel
theorem dX9_init_58 : decode cX9_init 58 = .ok (.new 20, 3) := by decide +kernel
theorem dX9_init_61 : decode cX9_init 61 = .ok (.dup, 1) := by decide +kernel
theorem dX9_init_62 : decode cX9_init 62 = .ok (.invokespecial 22, 3) := by decide +kernel
theorem dX9_init_65 : decode cX9_init 65 = .ok (.putfield 33, 3) := by decide +kernel
theorem dX9_init_68 : decode cX9_init 68 = .ok (.aload_n 0, 1) := by decide +kernel
theorem dX9_init_69 : decode cX9_init 69 = .ok (.new 36, 3) := by decide +kernel
theorem dX9_init_72 : decode cX9_init 72 = .ok (.dup, 1) := by decide +kernel
theorem dX9_init_73 : decode cX9_init 73 = .ok (.invokespecial 38, 3) := by decide +kernel
theorem dX9_init_76 : decode cX9_init 76 = .ok (.putfield 39, 3) := by decide +kernel
theorem dX9_init_79 : decode cX9_init 79 = .ok (.aload_n 0, 1) := by decide +kernel
theorem dX9_init_80 : decode cX9_init 80 = .ok (.new 36, 3) := by decide +kernel
theorem dX9_init_83 : decode cX9_init 83 = .ok (.dup, 1) := by decide +kernel
theorem dX9_init_84 : decode cX9_init 84 = .ok (.invokespecial 38, 3) := by decide +kernel
theorem dX9_init_87 : decode cX9_init 87 = .ok (.putfield 43, 3) := by decide +kernel
theorem dX9_init_90 : decode cX9_init 90 = .ok (.aload_n 0, 1) := by decide +kernel
theorem dX9_init_91 : decode cX9_init 91 = .ok (.new 46, 3) := by decide +kernel
theorem dX9_init_94 : decode cX9_init 94 = .ok (.dup, 1) := by decide +kernel
theorem dX9_init_95 : decode cX9_init 95 = .ok (.invokespecial 48, 3) := by decide +kernel
theorem dX9_init_98 : decode cX9_init 98 = .ok (.putfield 49, 3) := by decide +kernel
theorem dX9_init_101 : decode cX9_init 101 = .ok (.aload_n 0, 1) := by decide +kernel
theorem dX9_init_102 : decode cX9_init 102 = .ok (.new 53, 3) := by decide +kernel
theorem dX9_init_105 : decode cX9_init 105 = .ok (.dup, 1) := by decide +kernel
theorem dX9_init_106 : decode cX9_init 106 = .ok (.invokespecial 55, 3) := by decide +kernel
theorem dX9_init_109 : decode cX9_init 109 = .ok (.putfield 56, 3) := by decide +kernel
theorem dX9_init_112 : decode cX9_init 112 = .ok (.aload_n 0, 1) := by decide +kernel
theorem dX9_init_113 : decode cX9_init 113 = .ok (.new 60, 3) := by decide +kernel
theorem dX9_init_116 : decode cX9_init 116 = .ok (.dup, 1) := by decide +kernel
theorem dX9_init_117 : decode cX9_init 117 = .ok (.invokespecial 62, 3) := by decide +kernel
theorem dX9_init_120 : decode cX9_init 120 = .ok (.putfield 63, 3) := by decide +kernel
theorem dX9_init_123 : decode cX9_init 123 = .ok (.aload_n 0, 1) := by decide +kernel
theorem dX9_init_124 : decode cX9_init 124 = .ok (.new 67, 3) := by decide +kernel
theorem dX9_init_127 : decode cX9_init 127 = .ok (.dup, 1) := by decide +kernel
theorem dX9_init_128 : decode cX9_init 128 = .ok (.iconst 5, 1) := by decide +kernel
theorem dX9_init_129 : decode cX9_init 129 = .ok (.bipush 20, 2) := by decide +kernel
theorem dX9_init_131 : decode cX9_init 131 = .ok (.invokespecial 69, 3) := by decide +kernel
theorem dX9_init_134 : decode cX9_init 134 = .ok (.putfield 72, 3) := by decide +kernel
theorem dX9_init_137 : decode cX9_init 137 = .ok (.aload_n 0, 1) := by decide +kernel
theorem dX9_init_138 : decode cX9_init 138 = .ok (.bipush 64, 2) := by decide +kernel
theorem dX9_init_140 : decode cX9_init 140 = .ok (.newarray .int, 2) := by decide +kernel
theorem dX9_init_142 : decode cX9_init 142 = .ok (.putfield 76, 3) := by decide +kernel
theorem dX9_init_145 : decode cX9_init 145 = .ok (.aload_n 0, 1) := by decide +kernel
theorem dX9_init_146 : decode cX9_init 146 = .ok (.bipush 91, 2) := by decide +kernel
theorem dX9_init_148 : decode cX9_init 148 = .ok (.newarray .int, 2) := by decide +kernel
theorem dX9_init_150 : decode cX9_init 150 = .ok (.putfield 80, 3) := by decide +kernel
theorem dX9_init_153 : decode cX9_init 153 = .ok (.return_, 1) := by decide +kernel
theorem dX9_feed_0 : decode cX9_feed 0 = .ok (.aload_n 0, 1) := by decide +kernel
theorem dX9_feed_1 : decode cX9_feed 1 = .ok (.getfield 83, 3) := by decide +kernel
theorem dX9_feed_4 : decode cX9_feed 4 = .ok (.bipush 20, 2) := by decide +kernel
theorem dX9_feed_6 : decode cX9_feed 6 = .ok (.iadd, 1) := by decide +kernel
theorem dX9_feed_7 : decode cX9_feed 7 = .ok (.sipush 700, 3) := by decide +kernel
theorem dX9_feed_10 : decode cX9_feed 10 = .ok (.if_icmp .le 5, 3) := by decide +kernel
theorem dX9_feed_13 : decode cX9_feed 13 = .ok (.iconst (-1), 1) := by decide +kernel
theorem dX9_feed_14 : decode cX9_feed 14 = .ok (.ireturn, 1) := by decide +kernel
theorem dX9_feed_15 : decode cX9_feed 15 = .ok (.aload_n 0, 1) := by decide +kernel
theorem dX9_feed_16 : decode cX9_feed 16 = .ok (.iload_n 1, 1) := by decide +kernel
theorem dX9_feed_17 : decode cX9_feed 17 = .ok (.invokevirtual 87, 3) := by decide +kernel
theorem dX9_feed_20 : decode cX9_feed 20 = .ok (.aload_n 0, 1) := by decide +kernel
theorem dX9_feed_21 : decode cX9_feed 21 = .ok (.iload_n 2, 1) := by decide +kernel
theorem dX9_feed_22 : decode cX9_feed 22 = .ok (.invokevirtual 87, 3) := by decide +kernel
theorem dX9_feed_25 : decode cX9_feed 25 = .ok (.aload_n 0, 1) := by decide +kernel
theorem dX9_feed_26 : decode cX9_feed 26 = .ok (.iload_n 3, 1) := by decide +kernel
theorem dX9_feed_27 : decode cX9_feed 27 = .ok (.invokevirtual 87, 3) := by decide +kernel
theorem dX9_feed_30 : decode cX9_feed 30 = .ok (.aload_n 0, 1) := by decide +kernel
theorem dX9_feed_31 : decode cX9_feed 31 = .ok (.iload 4, 2) := by decide +kernel
theorem dX9_feed_33 : decode cX9_feed 33 = .ok (.invokevirtual 87, 3) := by decide +kernel
theorem dX9_feed_36 : decode cX9_feed 36 = .ok (.aload_n 0, 1) := by decide +kernel
theorem dX9_feed_37 : decode cX9_feed 37 = .ok (.iload 5, 2) := by decide +kernel
theorem dX9_feed_39 : decode cX9_feed 39 = .ok (.invokevirtual 87, 3) := by decide +kernel
theorem dX9_feed_42 : decode cX9_feed 42 = .ok (.aload_n 0, 1) := by decide +kernel
theorem dX9_feed_43 : decode cX9_feed 43 = .ok (.getfield 83, 3) := by decide +kernel
theorem dX9_feed_46 : decode cX9_feed 46 = .ok (.ireturn, 1) := by decide +kernel
theorem dX9_tapeNumber_0 : decode cX9_tapeNumber 0 = .ok (.bipush 24, 2) := by decide +kernel
theorem dX9_tapeNumber_2 : decode cX9_tapeNumber 2 = .ok (.istore_n 2, 1) := by decide +kernel
theorem dX9_tapeNumber_3 : decode cX9_tapeNumber 3 = .ok (.iload_n 2, 1) := by decide +kernel
theorem dX9_tapeNumber_4 : decode cX9_tapeNumber 4 = .ok (.ifCond .lt 42, 3) := by decide +kernel
theorem dX9_tapeNumber_7 : decode cX9_tapeNumber 7 = .ok (.aload_n 0, 1) := by decide +kernel
theorem dX9_tapeNumber_8 : decode cX9_tapeNumber 8 = .ok (.getfield 83, 3) := by decide +kernel
theorem dX9_tapeNumber_11 : decode cX9_tapeNumber 11 = .ok (.sipush 700, 3) := by decide +kernel
theorem dX9_tapeNumber_14 : decode cX9_tapeNumber 14 = .ok (.if_icmp .ge 32, 3) := by decide +kernel
theorem dX9_tapeNumber_17 : decode cX9_tapeNumber 17 = .ok (.aload_n 0, 1) := by decide +kernel
theorem dX9_tapeNumber_18 : decode cX9_tapeNumber 18 = .ok (.getfield 9, 3) := by decide +kernel
theorem dX9_tapeNumber_21 : decode cX9_tapeNumber 21 = .ok (.aload_n 0, 1) := by decide +kernel
theorem dX9_tapeNumber_22 : decode cX9_tapeNumber 22 = .ok (.getfield 83, 3) := by decide +kernel
theorem dX9_tapeNumber_25 : decode cX9_tapeNumber 25 = .ok (.iload_n 1, 1) := by decide +kernel
theorem dX9_tapeNumber_26 : decode cX9_tapeNumber 26 = .ok (.iload_n 2, 1) := by decide +kernel
theorem dX9_tapeNumber_27 : decode cX9_tapeNumber 27 = .ok (.iushr, 1) := by decide +kernel
theorem dX9_tapeNumber_28 : decode cX9_tapeNumber 28 = .ok (.i2b, 1) := by decide +kernel
theorem dX9_tapeNumber_29 : decode cX9_tapeNumber 29 = .ok (.bastore, 1) := by decide +kernel
theorem dX9_tapeNumber_30 : decode cX9_tapeNumber 30 = .ok (.aload_n 0, 1) := by decide +kernel
theorem dX9_tapeNumber_31 : decode cX9_tapeNumber 31 = .ok (.dup, 1) := by decide +kernel
theorem dX9_tapeNumber_32 : decode cX9_tapeNumber 32 = .ok (.getfield 83, 3) := by decide +kernel
theorem dX9_tapeNumber_35 : decode cX9_tapeNumber 35 = .ok (.iconst 1, 1) := by decide +kernel
theorem dX9_tapeNumber_36 : decode cX9_tapeNumber 36 = .ok (.iadd, 1) := by decide +kernel
theorem dX9_tapeNumber_37 : decode cX9_tapeNumber 37 = .ok (.putfield 83, 3) := by decide +kernel
theorem dX9_tapeNumber_40 : decode cX9_tapeNumber 40 = .ok (.iinc 2 (-8), 3) := by decide +kernel
theorem dX9_tapeNumber_43 : decode cX9_tapeNumber 43 = .ok (.goto (-40), 3) := by decide +kernel
theorem dX9_tapeNumber_46 : decode cX9_tapeNumber 46 = .ok (.return_, 1) := by decide +kernel
theorem dX9_text_0 : decode cX9_text 0 = .ok (.iload_n 1, 1) := by decide +kernel
theorem dX9_text_1 : decode cX9_text 1 = .ok (.ifCond .lt 11, 3) := by decide +kernel
theorem dX9_text_4 : decode cX9_text 4 = .ok (.iload_n 1, 1) := by decide +kernel
theorem dX9_text_5 : decode cX9_text 5 = .ok (.aload_n 0, 1) := by decide +kernel
theorem dX9_text_6 : decode cX9_text 6 = .ok (.getfield 83, 3) := by decide +kernel
theorem dX9_text_9 : decode cX9_text 9 = .ok (.if_icmp .le 6, 3) := by decide +kernel
theorem dX9_text_12 : decode cX9_text 12 = .ok (.bipush (-2), 2) := by decide +kernel
theorem dX9_text_14 : decode cX9_text 14 = .ok (.ireturn, 1) := by decide +kernel
theorem dX9_text_15 : decode cX9_text 15 = .ok (.aload_n 0, 1) := by decide +kernel
theorem dX9_text_16 : decode cX9_text 16 = .ok (.iconst 0, 1) := by decide +kernel
theorem dX9_text_17 : decode cX9_text 17 = .ok (.putfield 83, 3) := by decide +kernel
theorem dX9_text_20 : decode cX9_text 20 = .ok (.aload_n 0, 1) := by decide +kernel
theorem dX9_text_21 : decode cX9_text 21 = .ok (.getfield 16, 3) := by decide +kernel
theorem dX9_text_24 : decode cX9_text 24 = .ok (.aload_n 0, 1) := by decide +kernel
theorem dX9_text_25 : decode cX9_text 25 = .ok (.getfield 9, 3) := by decide +kernel
theorem dX9_text_28 : decode cX9_text 28 = .ok (.iload_n 1, 1) := by decide +kernel
theorem dX9_text_29 : decode cX9_text 29 = .ok (.aload_n 0, 1) := by decide +kernel
theorem dX9_text_30 : decode cX9_text 30 = .ok (.getfield 27, 3) := by decide +kernel
theorem dX9_text_33 : decode cX9_text 33 = .ok (.invokevirtual 91, 3) := by decide +kernel
theorem dX9_text_36 : decode cX9_text 36 = .ok (.ifCond .ne 5, 3) := by decide +kernel
theorem dX9_text_39 : decode cX9_text 39 = .ok (.iconst (-1), 1) := by decide +kernel
theorem dX9_text_40 : decode cX9_text 40 = .ok (.ireturn, 1) := by decide +kernel
theorem dX9_text_41 : decode cX9_text 41 = .ok (.aload_n 0, 1) := by decide +kernel
theorem dX9_text_42 : decode cX9_text 42 = .ok (.getfield 23, 3) := by decide +kernel
theorem dX9_text_45 : decode cX9_text 45 = .ok (.astore_n 2, 1) := by decide +kernel
theorem dX9_text_46 : decode cX9_text 46 = .ok (.aload_n 0, 1) := by decide +kernel
theorem dX9_text_47 : decode cX9_text 47 = .ok (.aload_n 0, 1) := by decide +kernel
theorem dX9_text_48 : decode cX9_text 48 = .ok (.getfield 27, 3) := by decide +kernel
theorem dX9_text_51 : decode cX9_text 51 = .ok (.putfield 23, 3) := by decide +kernel
theorem dX9_text_54 : decode cX9_text 54 = .ok (.aload_n 0, 1) := by decide +kernel
theorem dX9_text_55 : decode cX9_text 55 = .ok (.aload_n 2, 1) := by decide +kernel
theorem dX9_text_56 : decode cX9_text 56 = .ok (.putfield 27, 3) := by decide +kernel
theorem dX9_text_59 : decode cX9_text 59 = .ok (.aload_n 0, 1) := by decide +kernel
theorem dX9_text_60 : decode cX9_text 60 = .ok (.iconst 0, 1) := by decide +kernel
theorem dX9_text_61 : decode cX9_text 61 = .ok (.putfield 95, 3) := by decide +kernel
theorem dX9_text_64 : decode cX9_text 64 = .ok (.aload_n 0, 1) := by decide +kernel
theorem dX9_text_65 : decode cX9_text 65 = .ok (.getfield 63, 3) := by decide +kernel
theorem dX9_text_68 : decode cX9_text 68 = .ok (.invokevirtual 99, 3) := by decide +kernel
theorem dX9_text_71 : decode cX9_text 71 = .ok (.aload_n 0, 1) := by decide +kernel
theorem dX9_text_72 : decode cX9_text 72 = .ok (.getfield 72, 3) := by decide +kernel
theorem dX9_text_75 : decode cX9_text 75 = .ok (.invokevirtual 102, 3) := by decide +kernel
theorem dX9_text_78 : decode cX9_text 78 = .ok (.aload_n 0, 1) := by decide +kernel
theorem dX9_text_79 : decode cX9_text 79 = .ok (.invokevirtual 103, 3) := by decide +kernel
theorem dX9_text_82 : decode cX9_text 82 = .ok (.aload_n 0, 1) := by decide +kernel
theorem dX9_text_83 : decode cX9_text 83 = .ok (.getfield 23, 3) := by decide +kernel
theorem dX9_text_86 : decode cX9_text 86 = .ok (.getfield 106, 3) := by decide +kernel
theorem dX9_text_89 : decode cX9_text 89 = .ok (.ireturn, 1) := by decide +kernel
theorem dX9_fault_0 : decode cX9_fault 0 = .ok (.iload_n 1, 1) := by decide +kernel
theorem dX9_fault_1 : decode cX9_fault 1 = .ok (.ifCond .ne 11, 3) := by decide +kernel
theorem dX9_fault_4 : decode cX9_fault 4 = .ok (.aload_n 0, 1) := by decide +kernel
theorem dX9_fault_5 : decode cX9_fault 5 = .ok (.getfield 16, 3) := by decide +kernel
theorem dX9_fault_8 : decode cX9_fault 8 = .ok (.getfield 109, 3) := by decide +kernel
theorem dX9_fault_11 : decode cX9_fault 11 = .ok (.ireturn, 1) := by decide +kernel
theorem dX9_fault_12 : decode cX9_fault 12 = .ok (.iload_n 1, 1) := by decide +kernel
theorem dX9_fault_13 : decode cX9_fault 13 = .ok (.iconst 1, 1) := by decide +kernel
theorem dX9_fault_14 : decode cX9_fault 14 = .ok (.if_icmp .ne 13, 3) := by decide +kernel
theorem dX9_fault_17 : decode cX9_fault 17 = .ok (.aload_n 0, 1) := by decide +kernel
theorem dX9_fault_18 : decode cX9_fault 18 = .ok (.getfield 16, 3) := by decide +kernel
theorem dX9_fault_21 : decode cX9_fault 21 = .ok (.getfield 112, 3) := by decide +kernel
theorem dX9_fault_24 : decode cX9_fault 24 = .ok (.goto 4, 3) := by decide +kernel
theorem dX9_fault_27 : decode cX9_fault 27 = .ok (.iconst (-1), 1) := by decide +kernel
theorem dX9_fault_28 : decode cX9_fault 28 = .ok (.ireturn, 1) := by decide +kernel
theorem dX9_named_0 : decode cX9_named 0 = .ok (.iload_n 1, 1) := by decide +kernel
theorem dX9_named_1 : decode cX9_named 1 = .ok (.ifCond .ne 16, 3) := by decide +kernel
theorem dX9_named_4 : decode cX9_named 4 = .ok (.aload_n 0, 1) := by decide +kernel
theorem dX9_named_5 : decode cX9_named 5 = .ok (.getfield 23, 3) := by decide +kernel
theorem dX9_named_8 : decode cX9_named 8 = .ok (.getfield 115, 3) := by decide +kernel
theorem dX9_named_11 : decode cX9_named 11 = .ok (.iconst 0, 1) := by decide +kernel
theorem dX9_named_12 : decode cX9_named 12 = .ok (.iload_n 2, 1) := by decide +kernel
theorem dX9_named_13 : decode cX9_named 13 = .ok (.invokevirtual 118, 3) := by decide +kernel
theorem dX9_named_16 : decode cX9_named 16 = .ok (.ireturn, 1) := by decide +kernel
theorem dX9_named_17 : decode cX9_named 17 = .ok (.iload_n 1, 1) := by decide +kernel
theorem dX9_named_18 : decode cX9_named 18 = .ok (.iconst 1, 1) := by decide +kernel
theorem dX9_named_19 : decode cX9_named 19 = .ok (.if_icmp .ne 18, 3) := by decide +kernel
theorem dX9_named_22 : decode cX9_named 22 = .ok (.aload_n 0, 1) := by decide +kernel
theorem dX9_named_23 : decode cX9_named 23 = .ok (.getfield 23, 3) := by decide +kernel
theorem dX9_named_26 : decode cX9_named 26 = .ok (.getfield 122, 3) := by decide +kernel
theorem dX9_named_29 : decode cX9_named 29 = .ok (.iconst 0, 1) := by decide +kernel
theorem dX9_named_30 : decode cX9_named 30 = .ok (.iload_n 2, 1) := by decide +kernel
theorem dX9_named_31 : decode cX9_named 31 = .ok (.invokevirtual 118, 3) := by decide +kernel
theorem dX9_named_34 : decode cX9_named 34 = .ok (.goto 4, 3) := by decide +kernel
theorem dX9_named_37 : decode cX9_named 37 = .ok (.iconst (-1), 1) := by decide +kernel
theorem dX9_named_38 : decode cX9_named 38 = .ok (.ireturn, 1) := by decide +kernel
theorem dX9_owner_0 : decode cX9_owner 0 = .ok (.aload_n 0, 1) := by decide +kernel
theorem dX9_owner_1 : decode cX9_owner 1 = .ok (.getfield 23, 3) := by decide +kernel
theorem dX9_owner_4 : decode cX9_owner 4 = .ok (.getfield 122, 3) := by decide +kernel
theorem dX9_owner_7 : decode cX9_owner 7 = .ok (.iload_n 1, 1) := by decide +kernel
theorem dX9_owner_8 : decode cX9_owner 8 = .ok (.invokevirtual 125, 3) := by decide +kernel
theorem dX9_owner_11 : decode cX9_owner 11 = .ok (.ifCond .ne 13, 3) := by decide +kernel
theorem dX9_owner_14 : decode cX9_owner 14 = .ok (.new 129, 3) := by decide +kernel
theorem dX9_owner_17 : decode cX9_owner 17 = .ok (.dup, 1) := by decide +kernel
theorem dX9_owner_18 : decode cX9_owner 18 = .ok (.ldc 131, 2) := by decide +kernel
theorem dX9_owner_20 : decode cX9_owner 20 = .ok (.invokespecial 133, 3) := by decide +kernel
theorem dX9_owner_23 : decode cX9_owner 23 = .ok (.athrow, 1) := by decide +kernel
theorem dX9_owner_24 : decode cX9_owner 24 = .ok (.iload_n 2, 1) := by decide +kernel
theorem dX9_owner_25 : decode cX9_owner 25 = .ok (.tableswitch 98 0 4 #[35, 48, 61, 70, 84], 35) := by decide +kernel
theorem dX9_owner_60 : decode cX9_owner 60 = .ok (.aload_n 0, 1) := by decide +kernel
theorem dX9_owner_61 : decode cX9_owner 61 = .ok (.getfield 23, 3) := by decide +kernel
theorem dX9_owner_64 : decode cX9_owner 64 = .ok (.getfield 122, 3) := by decide +kernel
theorem dX9_owner_67 : decode cX9_owner 67 = .ok (.iload_n 1, 1) := by decide +kernel
theorem dX9_owner_68 : decode cX9_owner 68 = .ok (.iconst 1, 1) := by decide +kernel
theorem dX9_owner_69 : decode cX9_owner 69 = .ok (.invokevirtual 136, 3) := by decide +kernel
theorem dX9_owner_72 : decode cX9_owner 72 = .ok (.ireturn, 1) := by decide +kernel
theorem dX9_owner_73 : decode cX9_owner 73 = .ok (.aload_n 0, 1) := by decide +kernel
theorem dX9_owner_74 : decode cX9_owner 74 = .ok (.getfield 23, 3) := by decide +kernel
theorem dX9_owner_77 : decode cX9_owner 77 = .ok (.getfield 122, 3) := by decide +kernel
theorem dX9_owner_80 : decode cX9_owner 80 = .ok (.iload_n 1, 1) := by decide +kernel
theorem dX9_owner_81 : decode cX9_owner 81 = .ok (.iconst 2, 1) := by decide +kernel
theorem dX9_owner_82 : decode cX9_owner 82 = .ok (.invokevirtual 136, 3) := by decide +kernel
theorem dX9_owner_85 : decode cX9_owner 85 = .ok (.ireturn, 1) := by decide +kernel
theorem dX9_owner_86 : decode cX9_owner 86 = .ok (.aload_n 0, 1) := by decide +kernel
theorem dX9_owner_87 : decode cX9_owner 87 = .ok (.invokevirtual 139, 3) := by decide +kernel
theorem dX9_owner_90 : decode cX9_owner 90 = .ok (.iload_n 1, 1) := by decide +kernel
theorem dX9_owner_91 : decode cX9_owner 91 = .ok (.invokevirtual 143, 3) := by decide +kernel
theorem dX9_owner_94 : decode cX9_owner 94 = .ok (.ireturn, 1) := by decide +kernel
theorem dX9_owner_95 : decode cX9_owner 95 = .ok (.aload_n 0, 1) := by decide +kernel
theorem dX9_owner_96 : decode cX9_owner 96 = .ok (.invokevirtual 139, 3) := by decide +kernel
theorem dX9_owner_99 : decode cX9_owner 99 = .ok (.aload_n 0, 1) := by decide +kernel
theorem dX9_owner_100 : decode cX9_owner 100 = .ok (.getfield 23, 3) := by decide +kernel
theorem dX9_owner_103 : decode cX9_owner 103 = .ok (.iload_n 1, 1) := by decide +kernel
theorem dX9_owner_104 : decode cX9_owner 104 = .ok (.iconst (-1), 1) := by decide +kernel
theorem dX9_owner_105 : decode cX9_owner 105 = .ok (.invokevirtual 147, 3) := by decide +kernel
theorem dX9_owner_108 : decode cX9_owner 108 = .ok (.ireturn, 1) := by decide +kernel
theorem dX9_owner_109 : decode cX9_owner 109 = .ok (.aload_n 0, 1) := by decide +kernel
theorem dX9_owner_110 : decode cX9_owner 110 = .ok (.invokevirtual 139, 3) := by decide +kernel
theorem dX9_owner_113 : decode cX9_owner 113 = .ok (.aload_n 0, 1) := by decide +kernel
theorem dX9_owner_114 : decode cX9_owner 114 = .ok (.getfield 23, 3) := by decide +kernel
theorem dX9_owner_117 : decode cX9_owner 117 = .ok (.iconst (-1), 1) := by decide +kernel
theorem dX9_owner_118 : decode cX9_owner 118 = .ok (.iload_n 1, 1) := by decide +kernel
theorem dX9_owner_119 : decode cX9_owner 119 = .ok (.invokevirtual 147, 3) := by decide +kernel
theorem dX9_owner_122 : decode cX9_owner 122 = .ok (.ireturn, 1) := by decide +kernel
theorem dX9_owner_123 : decode cX9_owner 123 = .ok (.new 151, 3) := by decide +kernel
theorem dX9_owner_126 : decode cX9_owner 126 = .ok (.dup, 1) := by decide +kernel
theorem dX9_owner_127 : decode cX9_owner 127 = .ok (.ldc 153, 2) := by decide +kernel
theorem dX9_owner_129 : decode cX9_owner 129 = .ok (.invokespecial 155, 3) := by decide +kernel
theorem dX9_owner_132 : decode cX9_owner 132 = .ok (.athrow, 1) := by decide +kernel
theorem dX9_noise_0 : decode cX9_noise 0 = .ok (.aload_n 0, 1) := by decide +kernel
theorem dX9_noise_1 : decode cX9_noise 1 = .ok (.getfield 23, 3) := by decide +kernel
theorem dX9_noise_4 : decode cX9_noise 4 = .ok (.getfield 156, 3) := by decide +kernel
theorem dX9_noise_7 : decode cX9_noise 7 = .ok (.iload_n 1, 1) := by decide +kernel
theorem dX9_noise_8 : decode cX9_noise 8 = .ok (.iload_n 2, 1) := by decide +kernel
theorem dX9_noise_9 : decode cX9_noise 9 = .ok (.invokevirtual 136, 3) := by decide +kernel
theorem dX9_noise_12 : decode cX9_noise 12 = .ok (.ireturn, 1) := by decide +kernel
theorem dX9_claim_0 : decode cX9_claim 0 = .ok (.aload_n 0, 1) := by decide +kernel
theorem dX9_claim_1 : decode cX9_claim 1 = .ok (.getfield 23, 3) := by decide +kernel
theorem dX9_claim_4 : decode cX9_claim 4 = .ok (.getfield 159, 3) := by decide +kernel
theorem dX9_claim_7 : decode cX9_claim 7 = .ok (.iload_n 1, 1) := by decide +kernel
theorem dX9_claim_8 : decode cX9_claim 8 = .ok (.iload_n 2, 1) := by decide +kernel
theorem dX9_claim_9 : decode cX9_claim 9 = .ok (.invokevirtual 136, 3) := by decide +kernel
theorem dX9_claim_12 : decode cX9_claim 12 = .ok (.ireturn, 1) := by decide +kernel
theorem dX9_link_0 : decode cX9_link 0 = .ok (.aload_n 0, 1) := by decide +kernel
theorem dX9_link_1 : decode cX9_link 1 = .ok (.getfield 23, 3) := by decide +kernel
theorem dX9_link_4 : decode cX9_link 4 = .ok (.getfield 162, 3) := by decide +kernel
theorem dX9_link_7 : decode cX9_link 7 = .ok (.iload_n 1, 1) := by decide +kernel
theorem dX9_link_8 : decode cX9_link 8 = .ok (.iload_n 2, 1) := by decide +kernel
theorem dX9_link_9 : decode cX9_link 9 = .ok (.invokevirtual 136, 3) := by decide +kernel
theorem dX9_link_12 : decode cX9_link 12 = .ok (.ireturn, 1) := by decide +kernel
theorem dX9_far_0 : decode cX9_far 0 = .ok (.aload_n 0, 1) := by decide +kernel
theorem dX9_far_1 : decode cX9_far 1 = .ok (.getfield 23, 3) := by decide +kernel
theorem dX9_far_4 : decode cX9_far 4 = .ok (.getfield 115, 3) := by decide +kernel
theorem dX9_far_7 : decode cX9_far 7 = .ok (.iload_n 1, 1) := by decide +kernel
theorem dX9_far_8 : decode cX9_far 8 = .ok (.invokevirtual 125, 3) := by decide +kernel
theorem dX9_far_11 : decode cX9_far 11 = .ok (.ifCond .eq 17, 3) := by decide +kernel
theorem dX9_far_14 : decode cX9_far 14 = .ok (.aload_n 0, 1) := by decide +kernel
theorem dX9_far_15 : decode cX9_far 15 = .ok (.getfield 23, 3) := by decide +kernel
theorem dX9_far_18 : decode cX9_far 18 = .ok (.getfield 115, 3) := by decide +kernel
theorem dX9_far_21 : decode cX9_far 21 = .ok (.iload_n 2, 1) := by decide +kernel
theorem dX9_far_22 : decode cX9_far 22 = .ok (.invokevirtual 125, 3) := by decide +kernel
theorem dX9_far_25 : decode cX9_far 25 = .ok (.ifCond .ne 5, 3) := by decide +kernel
theorem dX9_far_28 : decode cX9_far 28 = .ok (.iconst (-1), 1) := by decide +kernel
theorem dX9_far_29 : decode cX9_far 29 = .ok (.ireturn, 1) := by decide +kernel
theorem dX9_far_30 : decode cX9_far 30 = .ok (.aload_n 0, 1) := by decide +kernel
theorem dX9_far_31 : decode cX9_far 31 = .ok (.invokevirtual 139, 3) := by decide +kernel
theorem dX9_far_34 : decode cX9_far 34 = .ok (.iload_n 1, 1) := by decide +kernel
theorem dX9_far_35 : decode cX9_far 35 = .ok (.iload_n 2, 1) := by decide +kernel
theorem dX9_far_36 : decode cX9_far 36 = .ok (.invokevirtual 165, 3) := by decide +kernel
theorem dX9_far_39 : decode cX9_far 39 = .ok (.ireturn, 1) := by decide +kernel
theorem dX9_law_0 : decode cX9_law 0 = .ok (.iload_n 2, 1) := by decide +kernel
theorem dX9_law_1 : decode cX9_law 1 = .ok (.invokestatic 168, 3) := by decide +kernel
theorem dX9_law_4 : decode cX9_law 4 = .ok (.ifCond .eq 18, 3) := by decide +kernel
theorem dX9_law_7 : decode cX9_law 7 = .ok (.iload_n 3, 1) := by decide +kernel
theorem dX9_law_8 : decode cX9_law 8 = .ok (.invokestatic 168, 3) := by decide +kernel
theorem dX9_law_11 : decode cX9_law 11 = .ok (.ifCond .eq 11, 3) := by decide +kernel
theorem dX9_law_14 : decode cX9_law 14 = .ok (.iload 4, 2) := by decide +kernel
theorem dX9_law_16 : decode cX9_law 16 = .ok (.invokestatic 168, 3) := by decide +kernel
theorem dX9_law_19 : decode cX9_law 19 = .ok (.ifCond .ne 7, 3) := by decide +kernel
theorem dX9_law_22 : decode cX9_law 22 = .ok (.ldc2_w 173, 3) := by decide +kernel
theorem dX9_law_25 : decode cX9_law 25 = .ok (.lreturn, 1) := by decide +kernel
theorem dX9_law_26 : decode cX9_law 26 = .ok (.iload_n 1, 1) := by decide +kernel
theorem dX9_law_27 : decode cX9_law 27 = .ok (.ifCond .ne 21, 3) := by decide +kernel
theorem dX9_law_30 : decode cX9_law 30 = .ok (.aload_n 0, 1) := by decide +kernel
theorem dX9_law_31 : decode cX9_law 31 = .ok (.getfield 23, 3) := by decide +kernel
theorem dX9_law_34 : decode cX9_law 34 = .ok (.getfield 175, 3) := by decide +kernel
theorem dX9_law_37 : decode cX9_law 37 = .ok (.iload_n 2, 1) := by decide +kernel
theorem dX9_law_38 : decode cX9_law 38 = .ok (.iload_n 3, 1) := by decide +kernel
theorem dX9_law_39 : decode cX9_law 39 = .ok (.iload 4, 2) := by decide +kernel
theorem dX9_law_41 : decode cX9_law 41 = .ok (.iconst 0, 1) := by decide +kernel
theorem dX9_law_42 : decode cX9_law 42 = .ok (.iconst 0, 1) := by decide +kernel
theorem dX9_law_43 : decode cX9_law 43 = .ok (.iconst 0, 1) := by decide +kernel
theorem dX9_law_44 : decode cX9_law 44 = .ok (.invokevirtual 179, 3) := by decide +kernel
theorem dX9_law_47 : decode cX9_law 47 = .ok (.lreturn, 1) := by decide +kernel
theorem dX9_law_48 : decode cX9_law 48 = .ok (.iload_n 1, 1) := by decide +kernel
theorem dX9_law_49 : decode cX9_law 49 = .ok (.iconst 1, 1) := by decide +kernel
theorem dX9_law_50 : decode cX9_law 50 = .ok (.if_icmp .ne 23, 3) := by decide +kernel
theorem dX9_law_53 : decode cX9_law 53 = .ok (.aload_n 0, 1) := by decide +kernel
theorem dX9_law_54 : decode cX9_law 54 = .ok (.getfield 23, 3) := by decide +kernel
theorem dX9_law_57 : decode cX9_law 57 = .ok (.getfield 183, 3) := by decide +kernel
theorem dX9_law_60 : decode cX9_law 60 = .ok (.iconst 0, 1) := by decide +kernel
theorem dX9_law_61 : decode cX9_law 61 = .ok (.iconst 0, 1) := by decide +kernel
theorem dX9_law_62 : decode cX9_law 62 = .ok (.iconst 0, 1) := by decide +kernel
theorem dX9_law_63 : decode cX9_law 63 = .ok (.iload_n 2, 1) := by decide +kernel
theorem dX9_law_64 : decode cX9_law 64 = .ok (.iload_n 3, 1) := by decide +kernel
theorem dX9_law_65 : decode cX9_law 65 = .ok (.iload 4, 2) := by decide +kernel
theorem dX9_law_67 : decode cX9_law 67 = .ok (.invokevirtual 179, 3) := by decide +kernel
theorem dX9_law_70 : decode cX9_law 70 = .ok (.goto 6, 3) := by decide +kernel
theorem dX9_law_73 : decode cX9_law 73 = .ok (.ldc2_w 173, 3) := by decide +kernel
theorem dX9_law_76 : decode cX9_law 76 = .ok (.lreturn, 1) := by decide +kernel
theorem dX9_isLawNumber_0 : decode cX9_isLawNumber 0 = .ok (.iload_n 0, 1) := by decide +kernel
theorem dX9_isLawNumber_1 : decode cX9_isLawNumber 1 = .ok (.ifCond .lt 14, 3) := by decide +kernel
theorem dX9_isLawNumber_4 : decode cX9_isLawNumber 4 = .ok (.iload_n 0, 1) := by decide +kernel
theorem dX9_isLawNumber_5 : decode cX9_isLawNumber 5 = .ok (.sipush 9999, 3) := by decide +kernel
theorem dX9_isLawNumber_8 : decode cX9_isLawNumber 8 = .ok (.if_icmp .gt 7, 3) := by decide +kernel
theorem dX9_isLawNumber_11 : decode cX9_isLawNumber 11 = .ok (.iconst 1, 1) := by decide +kernel
theorem dX9_isLawNumber_12 : decode cX9_isLawNumber 12 = .ok (.goto 4, 3) := by decide +kernel
theorem dX9_isLawNumber_15 : decode cX9_isLawNumber 15 = .ok (.iconst 0, 1) := by decide +kernel
theorem dX9_isLawNumber_16 : decode cX9_isLawNumber 16 = .ok (.ireturn, 1) := by decide +kernel
theorem dX9_heard_0 : decode cX9_heard 0 = .ok (.aload_n 0, 1) := by decide +kernel
theorem dX9_heard_1 : decode cX9_heard 1 = .ok (.getfield 23, 3) := by decide +kernel
theorem dX9_heard_4 : decode cX9_heard 4 = .ok (.getfield 115, 3) := by decide +kernel
theorem dX9_heard_7 : decode cX9_heard 7 = .ok (.iload_n 1, 1) := by decide +kernel
theorem dX9_heard_8 : decode cX9_heard 8 = .ok (.invokevirtual 125, 3) := by decide +kernel
theorem dX9_heard_11 : decode cX9_heard 11 = .ok (.ifCond .eq 10, 3) := by decide +kernel
theorem dX9_heard_14 : decode cX9_heard 14 = .ok (.iload_n 2, 1) := by decide +kernel
theorem dX9_heard_15 : decode cX9_heard 15 = .ok (.invokestatic 186, 3) := by decide +kernel
theorem dX9_heard_18 : decode cX9_heard 18 = .ok (.ifCond .ne 5, 3) := by decide +kernel
theorem dX9_heard_21 : decode cX9_heard 21 = .ok (.iconst (-1), 1) := by decide +kernel
theorem dX9_heard_22 : decode cX9_heard 22 = .ok (.ireturn, 1) := by decide +kernel
theorem dX9_heard_23 : decode cX9_heard 23 = .ok (.aload_n 0, 1) := by decide +kernel
theorem dX9_heard_24 : decode cX9_heard 24 = .ok (.invokevirtual 139, 3) := by decide +kernel
theorem dX9_heard_27 : decode cX9_heard 27 = .ok (.aload_n 0, 1) := by decide +kernel
theorem dX9_heard_28 : decode cX9_heard 28 = .ok (.getfield 23, 3) := by decide +kernel
theorem dX9_heard_31 : decode cX9_heard 31 = .ok (.iload_n 1, 1) := by decide +kernel
theorem dX9_heard_32 : decode cX9_heard 32 = .ok (.iload_n 2, 1) := by decide +kernel
theorem dX9_heard_33 : decode cX9_heard 33 = .ok (.invokevirtual 189, 3) := by decide +kernel
theorem dX9_heard_36 : decode cX9_heard 36 = .ok (.istore_n 3, 1) := by decide +kernel
theorem dX9_heard_37 : decode cX9_heard 37 = .ok (.iload_n 3, 1) := by decide +kernel
theorem dX9_heard_38 : decode cX9_heard 38 = .ok (.iconst (-1), 1) := by decide +kernel
theorem dX9_heard_39 : decode cX9_heard 39 = .ok (.if_icmp .ne 8, 3) := by decide +kernel
theorem dX9_heard_42 : decode cX9_heard 42 = .ok (.bipush (-2), 2) := by decide +kernel
theorem dX9_heard_44 : decode cX9_heard 44 = .ok (.goto 4, 3) := by decide +kernel
theorem dX9_heard_47 : decode cX9_heard 47 = .ok (.iload_n 3, 1) := by decide +kernel
theorem dX9_heard_48 : decode cX9_heard 48 = .ok (.ireturn, 1) := by decide +kernel
theorem dX9_hush_0 : decode cX9_hush 0 = .ok (.aload_n 0, 1) := by decide +kernel
theorem dX9_hush_1 : decode cX9_hush 1 = .ok (.getfield 23, 3) := by decide +kernel
theorem dX9_hush_4 : decode cX9_hush 4 = .ok (.getfield 115, 3) := by decide +kernel
theorem dX9_hush_7 : decode cX9_hush 7 = .ok (.iload_n 1, 1) := by decide +kernel
theorem dX9_hush_8 : decode cX9_hush 8 = .ok (.invokevirtual 125, 3) := by decide +kernel
theorem dX9_hush_11 : decode cX9_hush 11 = .ok (.ifCond .eq 14, 3) := by decide +kernel
theorem dX9_hush_14 : decode cX9_hush 14 = .ok (.aload_n 0, 1) := by decide +kernel
theorem dX9_hush_15 : decode cX9_hush 15 = .ok (.invokevirtual 139, 3) := by decide +kernel
theorem dX9_hush_18 : decode cX9_hush 18 = .ok (.iload_n 1, 1) := by decide +kernel
theorem dX9_hush_19 : decode cX9_hush 19 = .ok (.invokevirtual 192, 3) := by decide +kernel
theorem dX9_hush_22 : decode cX9_hush 22 = .ok (.goto 6, 3) := by decide +kernel
theorem dX9_hush_25 : decode cX9_hush 25 = .ok (.ldc2_w 196, 3) := by decide +kernel
theorem dX9_hush_28 : decode cX9_hush 28 = .ok (.lreturn, 1) := by decide +kernel
theorem dX9_whose_0 : decode cX9_whose 0 = .ok (.aload_n 0, 1) := by decide +kernel
theorem dX9_whose_1 : decode cX9_whose 1 = .ok (.getfield 23, 3) := by decide +kernel
theorem dX9_whose_4 : decode cX9_whose 4 = .ok (.getfield 115, 3) := by decide +kernel
theorem dX9_whose_7 : decode cX9_whose 7 = .ok (.iload_n 1, 1) := by decide +kernel
theorem dX9_whose_8 : decode cX9_whose 8 = .ok (.invokevirtual 125, 3) := by decide +kernel
theorem dX9_whose_11 : decode cX9_whose 11 = .ok (.ifCond .eq 10, 3) := by decide +kernel
theorem dX9_whose_14 : decode cX9_whose 14 = .ok (.iload_n 2, 1) := by decide +kernel
theorem dX9_whose_15 : decode cX9_whose 15 = .ok (.invokestatic 186, 3) := by decide +kernel
theorem dX9_whose_18 : decode cX9_whose 18 = .ok (.ifCond .ne 5, 3) := by decide +kernel
theorem dX9_whose_21 : decode cX9_whose 21 = .ok (.iconst (-1), 1) := by decide +kernel
theorem dX9_whose_22 : decode cX9_whose 22 = .ok (.ireturn, 1) := by decide +kernel
theorem dX9_whose_23 : decode cX9_whose 23 = .ok (.aload_n 0, 1) := by decide +kernel
theorem dX9_whose_24 : decode cX9_whose 24 = .ok (.invokevirtual 139, 3) := by decide +kernel
theorem dX9_whose_27 : decode cX9_whose 27 = .ok (.iload_n 1, 1) := by decide +kernel
theorem dX9_whose_28 : decode cX9_whose 28 = .ok (.iload_n 2, 1) := by decide +kernel
theorem dX9_whose_29 : decode cX9_whose 29 = .ok (.invokevirtual 198, 3) := by decide +kernel
theorem dX9_whose_32 : decode cX9_whose 32 = .ok (.ireturn, 1) := by decide +kernel
theorem dX9_spans_0 : decode cX9_spans 0 = .ok (.aload_n 0, 1) := by decide +kernel
theorem dX9_spans_1 : decode cX9_spans 1 = .ok (.invokevirtual 201, 3) := by decide +kernel
theorem dX9_spans_4 : decode cX9_spans 4 = .ok (.getfield 205, 3) := by decide +kernel
theorem dX9_spans_7 : decode cX9_spans 7 = .ok (.getfield 208, 3) := by decide +kernel
theorem dX9_spans_10 : decode cX9_spans 10 = .ok (.ireturn, 1) := by decide +kernel
theorem dX9_span_0 : decode cX9_span 0 = .ok (.iload_n 1, 1) := by decide +kernel
theorem dX9_span_1 : decode cX9_span 1 = .ok (.ifCond .lt 12, 3) := by decide +kernel
theorem dX9_span_4 : decode cX9_span 4 = .ok (.iload_n 2, 1) := by decide +kernel
theorem dX9_span_5 : decode cX9_span 5 = .ok (.ifCond .lt 8, 3) := by decide +kernel
theorem dX9_span_8 : decode cX9_span 8 = .ok (.iload_n 2, 1) := by decide +kernel
theorem dX9_span_9 : decode cX9_span 9 = .ok (.iconst 3, 1) := by decide +kernel
theorem dX9_span_10 : decode cX9_span 10 = .ok (.if_icmp .le 5, 3) := by decide +kernel
theorem dX9_span_13 : decode cX9_span 13 = .ok (.iconst (-1), 1) := by decide +kernel
theorem dX9_span_14 : decode cX9_span 14 = .ok (.ireturn, 1) := by decide +kernel
theorem dX9_span_15 : decode cX9_span 15 = .ok (.aload_n 0, 1) := by decide +kernel
theorem dX9_span_16 : decode cX9_span 16 = .ok (.invokevirtual 201, 3) := by decide +kernel
theorem dX9_span_19 : decode cX9_span 19 = .ok (.getfield 205, 3) := by decide +kernel
theorem dX9_span_22 : decode cX9_span 22 = .ok (.astore_n 3, 1) := by decide +kernel
theorem dX9_span_23 : decode cX9_span 23 = .ok (.aload_n 3, 1) := by decide +kernel
theorem dX9_span_24 : decode cX9_span 24 = .ok (.iload_n 1, 1) := by decide +kernel
theorem dX9_span_25 : decode cX9_span 25 = .ok (.invokevirtual 125, 3) := by decide +kernel
theorem dX9_span_28 : decode cX9_span 28 = .ok (.ifCond .eq 12, 3) := by decide +kernel
theorem dX9_span_31 : decode cX9_span 31 = .ok (.aload_n 3, 1) := by decide +kernel
theorem dX9_span_32 : decode cX9_span 32 = .ok (.iload_n 1, 1) := by decide +kernel
theorem dX9_span_33 : decode cX9_span 33 = .ok (.iload_n 2, 1) := by decide +kernel
theorem dX9_span_34 : decode cX9_span 34 = .ok (.invokevirtual 136, 3) := by decide +kernel
theorem dX9_span_37 : decode cX9_span 37 = .ok (.goto 5, 3) := by decide +kernel
theorem dX9_span_40 : decode cX9_span 40 = .ok (.bipush (-2), 2) := by decide +kernel
theorem dX9_span_42 : decode cX9_span 42 = .ok (.ireturn, 1) := by decide +kernel
theorem dX9_pieces_0 : decode cX9_pieces 0 = .ok (.aload_n 0, 1) := by decide +kernel
theorem dX9_pieces_1 : decode cX9_pieces 1 = .ok (.invokevirtual 201, 3) := by decide +kernel
theorem dX9_pieces_4 : decode cX9_pieces 4 = .ok (.getfield 211, 3) := by decide +kernel
theorem dX9_pieces_7 : decode cX9_pieces 7 = .ok (.getfield 208, 3) := by decide +kernel
theorem dX9_pieces_10 : decode cX9_pieces 10 = .ok (.ireturn, 1) := by decide +kernel
theorem dX9_piece_0 : decode cX9_piece 0 = .ok (.iload_n 1, 1) := by decide +kernel
theorem dX9_piece_1 : decode cX9_piece 1 = .ok (.ifCond .lt 12, 3) := by decide +kernel
theorem dX9_piece_4 : decode cX9_piece 4 = .ok (.iload_n 2, 1) := by decide +kernel
theorem dX9_piece_5 : decode cX9_piece 5 = .ok (.ifCond .lt 8, 3) := by decide +kernel
theorem dX9_piece_8 : decode cX9_piece 8 = .ok (.iload_n 2, 1) := by decide +kernel
theorem dX9_piece_9 : decode cX9_piece 9 = .ok (.iconst 5, 1) := by decide +kernel
theorem dX9_piece_10 : decode cX9_piece 10 = .ok (.if_icmp .le 5, 3) := by decide +kernel
theorem dX9_piece_13 : decode cX9_piece 13 = .ok (.iconst (-1), 1) := by decide +kernel
theorem dX9_piece_14 : decode cX9_piece 14 = .ok (.ireturn, 1) := by decide +kernel
theorem dX9_piece_15 : decode cX9_piece 15 = .ok (.aload_n 0, 1) := by decide +kernel
theorem dX9_piece_16 : decode cX9_piece 16 = .ok (.invokevirtual 201, 3) := by decide +kernel
theorem dX9_piece_19 : decode cX9_piece 19 = .ok (.getfield 211, 3) := by decide +kernel
theorem dX9_piece_22 : decode cX9_piece 22 = .ok (.astore_n 3, 1) := by decide +kernel
theorem dX9_piece_23 : decode cX9_piece 23 = .ok (.aload_n 3, 1) := by decide +kernel
theorem dX9_piece_24 : decode cX9_piece 24 = .ok (.iload_n 1, 1) := by decide +kernel
theorem dX9_piece_25 : decode cX9_piece 25 = .ok (.invokevirtual 125, 3) := by decide +kernel
theorem dX9_piece_28 : decode cX9_piece 28 = .ok (.ifCond .eq 12, 3) := by decide +kernel
theorem dX9_piece_31 : decode cX9_piece 31 = .ok (.aload_n 3, 1) := by decide +kernel
theorem dX9_piece_32 : decode cX9_piece 32 = .ok (.iload_n 1, 1) := by decide +kernel
theorem dX9_piece_33 : decode cX9_piece 33 = .ok (.iload_n 2, 1) := by decide +kernel
theorem dX9_piece_34 : decode cX9_piece 34 = .ok (.invokevirtual 136, 3) := by decide +kernel
theorem dX9_piece_37 : decode cX9_piece 37 = .ok (.goto 5, 3) := by decide +kernel
theorem dX9_piece_40 : decode cX9_piece 40 = .ok (.bipush (-2), 2) := by decide +kernel
theorem dX9_piece_42 : decode cX9_piece 42 = .ok (.ireturn, 1) := by decide +kernel
theorem dX9_share_0 : decode cX9_share 0 = .ok (.iload_n 1, 1) := by decide +kernel
theorem dX9_share_1 : decode cX9_share 1 = .ok (.ifCond .lt 17, 3) := by decide +kernel
theorem dX9_share_4 : decode cX9_share 4 = .ok (.aload_n 0, 1) := by decide +kernel
theorem dX9_share_5 : decode cX9_share 5 = .ok (.getfield 23, 3) := by decide +kernel
theorem dX9_share_8 : decode cX9_share 8 = .ok (.getfield 122, 3) := by decide +kernel
theorem dX9_share_11 : decode cX9_share 11 = .ok (.iload_n 2, 1) := by decide +kernel
theorem dX9_share_12 : decode cX9_share 12 = .ok (.invokevirtual 125, 3) := by decide +kernel
theorem dX9_share_15 : decode cX9_share 15 = .ok (.ifCond .ne 5, 3) := by decide +kernel
theorem dX9_share_18 : decode cX9_share 18 = .ok (.iconst (-1), 1) := by decide +kernel
theorem dX9_share_19 : decode cX9_share 19 = .ok (.ireturn, 1) := by decide +kernel
theorem dX9_share_20 : decode cX9_share 20 = .ok (.aload_n 0, 1) := by decide +kernel
theorem dX9_share_21 : decode cX9_share 21 = .ok (.invokevirtual 201, 3) := by decide +kernel
theorem dX9_share_24 : decode cX9_share 24 = .ok (.getfield 211, 3) := by decide +kernel
theorem dX9_share_27 : decode cX9_share 27 = .ok (.iload_n 1, 1) := by decide +kernel
theorem dX9_share_28 : decode cX9_share 28 = .ok (.invokevirtual 125, 3) := by decide +kernel
theorem dX9_share_31 : decode cX9_share 31 = .ok (.ifCond .ne 6, 3) := by decide +kernel
theorem dX9_share_34 : decode cX9_share 34 = .ok (.bipush (-2), 2) := by decide +kernel
theorem dX9_share_36 : decode cX9_share 36 = .ok (.ireturn, 1) := by decide +kernel
theorem dX9_share_37 : decode cX9_share 37 = .ok (.aload_n 0, 1) := by decide +kernel
theorem dX9_share_38 : decode cX9_share 38 = .ok (.getfield 49, 3) := by decide +kernel
theorem dX9_share_41 : decode cX9_share 41 = .ok (.aload_n 0, 1) := by decide +kernel
theorem dX9_share_42 : decode cX9_share 42 = .ok (.getfield 39, 3) := by decide +kernel
theorem dX9_share_45 : decode cX9_share 45 = .ok (.iload_n 1, 1) := by decide +kernel
theorem dX9_share_46 : decode cX9_share 46 = .ok (.iload_n 2, 1) := by decide +kernel
theorem dX9_share_47 : decode cX9_share 47 = .ok (.invokevirtual 214, 3) := by decide +kernel
theorem dX9_share_50 : decode cX9_share 50 = .ok (.ireturn, 1) := by decide +kernel
theorem dX9_part_0 : decode cX9_part 0 = .ok (.iload_n 1, 1) := by decide +kernel
theorem dX9_part_1 : decode cX9_part 1 = .ok (.ifCond .lt 17, 3) := by decide +kernel
theorem dX9_part_4 : decode cX9_part 4 = .ok (.aload_n 0, 1) := by decide +kernel
theorem dX9_part_5 : decode cX9_part 5 = .ok (.getfield 23, 3) := by decide +kernel
theorem dX9_part_8 : decode cX9_part 8 = .ok (.getfield 122, 3) := by decide +kernel
theorem dX9_part_11 : decode cX9_part 11 = .ok (.iload_n 2, 1) := by decide +kernel
theorem dX9_part_12 : decode cX9_part 12 = .ok (.invokevirtual 125, 3) := by decide +kernel
theorem dX9_part_15 : decode cX9_part 15 = .ok (.ifCond .ne 5, 3) := by decide +kernel
theorem dX9_part_18 : decode cX9_part 18 = .ok (.iconst (-1), 1) := by decide +kernel
theorem dX9_part_19 : decode cX9_part 19 = .ok (.ireturn, 1) := by decide +kernel
theorem dX9_part_20 : decode cX9_part 20 = .ok (.aload_n 0, 1) := by decide +kernel
theorem dX9_part_21 : decode cX9_part 21 = .ok (.invokevirtual 201, 3) := by decide +kernel
theorem dX9_part_24 : decode cX9_part 24 = .ok (.getfield 211, 3) := by decide +kernel
theorem dX9_part_27 : decode cX9_part 27 = .ok (.iload_n 1, 1) := by decide +kernel
theorem dX9_part_28 : decode cX9_part 28 = .ok (.invokevirtual 125, 3) := by decide +kernel
theorem dX9_part_31 : decode cX9_part 31 = .ok (.ifCond .ne 6, 3) := by decide +kernel
theorem dX9_part_34 : decode cX9_part 34 = .ok (.bipush (-2), 2) := by decide +kernel
theorem dX9_part_36 : decode cX9_part 36 = .ok (.ireturn, 1) := by decide +kernel
theorem dX9_part_37 : decode cX9_part 37 = .ok (.aload_n 0, 1) := by decide +kernel
theorem dX9_part_38 : decode cX9_part 38 = .ok (.getfield 49, 3) := by decide +kernel
theorem dX9_part_41 : decode cX9_part 41 = .ok (.aload_n 0, 1) := by decide +kernel
theorem dX9_part_42 : decode cX9_part 42 = .ok (.getfield 23, 3) := by decide +kernel
theorem dX9_part_45 : decode cX9_part 45 = .ok (.aload_n 0, 1) := by decide +kernel
theorem dX9_part_46 : decode cX9_part 46 = .ok (.getfield 39, 3) := by decide +kernel
theorem dX9_part_49 : decode cX9_part 49 = .ok (.iload_n 1, 1) := by decide +kernel
theorem dX9_part_50 : decode cX9_part 50 = .ok (.iload_n 2, 1) := by decide +kernel
theorem dX9_part_51 : decode cX9_part 51 = .ok (.invokevirtual 217, 3) := by decide +kernel
theorem dX9_part_54 : decode cX9_part 54 = .ok (.ireturn, 1) := by decide +kernel
theorem dX9_leaves_0 : decode cX9_leaves 0 = .ok (.iload_n 1, 1) := by decide +kernel
theorem dX9_leaves_1 : decode cX9_leaves 1 = .ok (.ifCond .ge 5, 3) := by decide +kernel
theorem dX9_leaves_4 : decode cX9_leaves 4 = .ok (.iconst (-1), 1) := by decide +kernel
theorem dX9_leaves_5 : decode cX9_leaves 5 = .ok (.ireturn, 1) := by decide +kernel
theorem dX9_leaves_6 : decode cX9_leaves 6 = .ok (.aload_n 0, 1) := by decide +kernel
theorem dX9_leaves_7 : decode cX9_leaves 7 = .ok (.invokevirtual 201, 3) := by decide +kernel
theorem dX9_leaves_10 : decode cX9_leaves 10 = .ok (.getfield 211, 3) := by decide +kernel
theorem dX9_leaves_13 : decode cX9_leaves 13 = .ok (.iload_n 1, 1) := by decide +kernel
theorem dX9_leaves_14 : decode cX9_leaves 14 = .ok (.invokevirtual 125, 3) := by decide +kernel
theorem dX9_leaves_17 : decode cX9_leaves 17 = .ok (.ifCond .ne 6, 3) := by decide +kernel
theorem dX9_leaves_20 : decode cX9_leaves 20 = .ok (.bipush (-2), 2) := by decide +kernel
theorem dX9_leaves_22 : decode cX9_leaves 22 = .ok (.ireturn, 1) := by decide +kernel
theorem dX9_leaves_23 : decode cX9_leaves 23 = .ok (.aload_n 0, 1) := by decide +kernel
theorem dX9_leaves_24 : decode cX9_leaves 24 = .ok (.getfield 49, 3) := by decide +kernel
theorem dX9_leaves_27 : decode cX9_leaves 27 = .ok (.aload_n 0, 1) := by decide +kernel
theorem dX9_leaves_28 : decode cX9_leaves 28 = .ok (.getfield 23, 3) := by decide +kernel
theorem dX9_leaves_31 : decode cX9_leaves 31 = .ok (.aload_n 0, 1) := by decide +kernel
theorem dX9_leaves_32 : decode cX9_leaves 32 = .ok (.getfield 39, 3) := by decide +kernel
theorem dX9_leaves_35 : decode cX9_leaves 35 = .ok (.iload_n 1, 1) := by decide +kernel
theorem dX9_leaves_36 : decode cX9_leaves 36 = .ok (.invokevirtual 221, 3) := by decide +kernel
theorem dX9_leaves_39 : decode cX9_leaves 39 = .ok (.ireturn, 1) := by decide +kernel
theorem dX9_make_0 : decode cX9_make 0 = .ok (.aload_n 0, 1) := by decide +kernel
theorem dX9_make_1 : decode cX9_make 1 = .ok (.getfield 23, 3) := by decide +kernel
theorem dX9_make_4 : decode cX9_make 4 = .ok (.getfield 115, 3) := by decide +kernel
theorem dX9_make_7 : decode cX9_make 7 = .ok (.iload_n 1, 1) := by decide +kernel
theorem dX9_make_8 : decode cX9_make 8 = .ok (.invokevirtual 125, 3) := by decide +kernel
theorem dX9_make_11 : decode cX9_make 11 = .ok (.ifCond .eq 32, 3) := by decide +kernel
theorem dX9_make_14 : decode cX9_make 14 = .ok (.aload_n 0, 1) := by decide +kernel
theorem dX9_make_15 : decode cX9_make 15 = .ok (.getfield 23, 3) := by decide +kernel
theorem dX9_make_18 : decode cX9_make 18 = .ok (.getfield 122, 3) := by decide +kernel
theorem dX9_make_21 : decode cX9_make 21 = .ok (.iload_n 2, 1) := by decide +kernel
theorem dX9_make_22 : decode cX9_make 22 = .ok (.invokevirtual 125, 3) := by decide +kernel
theorem dX9_make_25 : decode cX9_make 25 = .ok (.ifCond .eq 18, 3) := by decide +kernel
theorem dX9_make_28 : decode cX9_make 28 = .ok (.aload_n 0, 1) := by decide +kernel
theorem dX9_make_29 : decode cX9_make 29 = .ok (.getfield 23, 3) := by decide +kernel
theorem dX9_make_32 : decode cX9_make 32 = .ok (.getfield 156, 3) := by decide +kernel
theorem dX9_make_35 : decode cX9_make 35 = .ok (.getfield 208, 3) := by decide +kernel
theorem dX9_make_38 : decode cX9_make 38 = .ok (.bipush 12, 2) := by decide +kernel
theorem dX9_make_40 : decode cX9_make 40 = .ok (.if_icmp .lt 5, 3) := by decide +kernel
theorem dX9_make_43 : decode cX9_make 43 = .ok (.iconst (-1), 1) := by decide +kernel
theorem dX9_make_44 : decode cX9_make 44 = .ok (.ireturn, 1) := by decide +kernel
theorem dX9_make_45 : decode cX9_make 45 = .ok (.iload_n 3, 1) := by decide +kernel
theorem dX9_make_46 : decode cX9_make 46 = .ok (.invokestatic 186, 3) := by decide +kernel
theorem dX9_make_49 : decode cX9_make 49 = .ok (.ifCond .eq 30, 3) := by decide +kernel
theorem dX9_make_52 : decode cX9_make 52 = .ok (.iload 4, 2) := by decide +kernel
theorem dX9_make_54 : decode cX9_make 54 = .ok (.invokestatic 186, 3) := by decide +kernel
theorem dX9_make_57 : decode cX9_make 57 = .ok (.ifCond .eq 22, 3) := by decide +kernel
theorem dX9_make_60 : decode cX9_make 60 = .ok (.iload 4, 2) := by decide +kernel
theorem dX9_make_62 : decode cX9_make 62 = .ok (.iload_n 3, 1) := by decide +kernel
theorem dX9_make_63 : decode cX9_make 63 = .ok (.if_icmp .lt 16, 3) := by decide +kernel
theorem dX9_make_66 : decode cX9_make 66 = .ok (.iload 5, 2) := by decide +kernel
theorem dX9_make_68 : decode cX9_make 68 = .ok (.iconst 1, 1) := by decide +kernel
theorem dX9_make_69 : decode cX9_make 69 = .ok (.if_icmp .lt 10, 3) := by decide +kernel
theorem dX9_make_72 : decode cX9_make 72 = .ok (.iload 5, 2) := by decide +kernel
theorem dX9_make_74 : decode cX9_make 74 = .ok (.bipush 20, 2) := by decide +kernel
theorem dX9_make_76 : decode cX9_make 76 = .ok (.if_icmp .le 5, 3) := by decide +kernel
theorem dX9_make_79 : decode cX9_make 79 = .ok (.iconst (-1), 1) := by decide +kernel
theorem dX9_make_80 : decode cX9_make 80 = .ok (.ireturn, 1) := by decide +kernel
theorem dX9_make_81 : decode cX9_make 81 = .ok (.aload_n 0, 1) := by decide +kernel
theorem dX9_make_82 : decode cX9_make 82 = .ok (.getfield 23, 3) := by decide +kernel
theorem dX9_make_85 : decode cX9_make 85 = .ok (.getfield 156, 3) := by decide +kernel
theorem dX9_make_88 : decode cX9_make 88 = .ok (.iload_n 1, 1) := by decide +kernel
theorem dX9_make_89 : decode cX9_make 89 = .ok (.iload_n 2, 1) := by decide +kernel
theorem dX9_make_90 : decode cX9_make 90 = .ok (.iload_n 3, 1) := by decide +kernel
theorem dX9_make_91 : decode cX9_make 91 = .ok (.iload 4, 2) := by decide +kernel
theorem dX9_make_93 : decode cX9_make 93 = .ok (.iload 5, 2) := by decide +kernel
theorem dX9_make_95 : decode cX9_make 95 = .ok (.invokevirtual 225, 3) := by decide +kernel
theorem dX9_make_98 : decode cX9_make 98 = .ok (.istore 6, 2) := by decide +kernel
theorem dX9_make_100 : decode cX9_make 100 = .ok (.aload_n 0, 1) := by decide +kernel
theorem dX9_make_101 : decode cX9_make 101 = .ok (.iconst 0, 1) := by decide +kernel
theorem dX9_make_102 : decode cX9_make 102 = .ok (.iload 6, 2) := by decide +kernel
theorem dX9_make_104 : decode cX9_make 104 = .ok (.iconst 0, 1) := by decide +kernel
theorem dX9_make_105 : decode cX9_make 105 = .ok (.iconst 0, 1) := by decide +kernel
theorem dX9_make_106 : decode cX9_make 106 = .ok (.iconst 0, 1) := by decide +kernel
theorem dX9_make_107 : decode cX9_make 107 = .ok (.invokevirtual 229, 3) := by decide +kernel
theorem dX9_make_110 : decode cX9_make 110 = .ok (.iload 6, 2) := by decide +kernel
theorem dX9_make_112 : decode cX9_make 112 = .ok (.ireturn, 1) := by decide +kernel
theorem dX9_stop_0 : decode cX9_stop 0 = .ok (.aload_n 0, 1) := by decide +kernel
theorem dX9_stop_1 : decode cX9_stop 1 = .ok (.getfield 23, 3) := by decide +kernel
theorem dX9_stop_4 : decode cX9_stop 4 = .ok (.getfield 156, 3) := by decide +kernel
theorem dX9_stop_7 : decode cX9_stop 7 = .ok (.iload_n 1, 1) := by decide +kernel
theorem dX9_stop_8 : decode cX9_stop 8 = .ok (.invokevirtual 125, 3) := by decide +kernel
theorem dX9_stop_11 : decode cX9_stop 11 = .ok (.ifCond .eq 18, 3) := by decide +kernel
theorem dX9_stop_14 : decode cX9_stop 14 = .ok (.aload_n 0, 1) := by decide +kernel
theorem dX9_stop_15 : decode cX9_stop 15 = .ok (.getfield 23, 3) := by decide +kernel
theorem dX9_stop_18 : decode cX9_stop 18 = .ok (.getfield 156, 3) := by decide +kernel
theorem dX9_stop_21 : decode cX9_stop 21 = .ok (.iload_n 1, 1) := by decide +kernel
theorem dX9_stop_22 : decode cX9_stop 22 = .ok (.iconst 5, 1) := by decide +kernel
theorem dX9_stop_23 : decode cX9_stop 23 = .ok (.invokevirtual 136, 3) := by decide +kernel
theorem dX9_stop_26 : decode cX9_stop 26 = .ok (.ifCond .eq 5, 3) := by decide +kernel
theorem dX9_stop_29 : decode cX9_stop 29 = .ok (.iconst 0, 1) := by decide +kernel
theorem dX9_stop_30 : decode cX9_stop 30 = .ok (.ireturn, 1) := by decide +kernel
theorem dX9_stop_31 : decode cX9_stop 31 = .ok (.aload_n 0, 1) := by decide +kernel
theorem dX9_stop_32 : decode cX9_stop 32 = .ok (.getfield 23, 3) := by decide +kernel
theorem dX9_stop_35 : decode cX9_stop 35 = .ok (.getfield 156, 3) := by decide +kernel
theorem dX9_stop_38 : decode cX9_stop 38 = .ok (.iload_n 1, 1) := by decide +kernel
theorem dX9_stop_39 : decode cX9_stop 39 = .ok (.iconst 5, 1) := by decide +kernel
theorem dX9_stop_40 : decode cX9_stop 40 = .ok (.iconst 1, 1) := by decide +kernel
theorem dX9_stop_41 : decode cX9_stop 41 = .ok (.invokevirtual 233, 3) := by decide +kernel
theorem dX9_stop_44 : decode cX9_stop 44 = .ok (.aload_n 0, 1) := by decide +kernel
theorem dX9_stop_45 : decode cX9_stop 45 = .ok (.iconst 1, 1) := by decide +kernel
theorem dX9_stop_46 : decode cX9_stop 46 = .ok (.iload_n 1, 1) := by decide +kernel
theorem dX9_stop_47 : decode cX9_stop 47 = .ok (.iconst 0, 1) := by decide +kernel
theorem dX9_stop_48 : decode cX9_stop 48 = .ok (.iconst 0, 1) := by decide +kernel
theorem dX9_stop_49 : decode cX9_stop 49 = .ok (.iconst 0, 1) := by decide +kernel
theorem dX9_stop_50 : decode cX9_stop 50 = .ok (.invokevirtual 229, 3) := by decide +kernel
theorem dX9_stop_53 : decode cX9_stop 53 = .ok (.iconst 1, 1) := by decide +kernel
theorem dX9_stop_54 : decode cX9_stop 54 = .ok (.ireturn, 1) := by decide +kernel
theorem dX9_wall_0 : decode cX9_wall 0 = .ok (.iload_n 2, 1) := by decide +kernel
theorem dX9_wall_1 : decode cX9_wall 1 = .ok (.ifCond .eq 7, 3) := by decide +kernel
theorem dX9_wall_4 : decode cX9_wall 4 = .ok (.iconst 1, 1) := by decide +kernel
theorem dX9_wall_5 : decode cX9_wall 5 = .ok (.goto 4, 3) := by decide +kernel
theorem dX9_wall_8 : decode cX9_wall 8 = .ok (.iconst 0, 1) := by decide +kernel
theorem dX9_wall_9 : decode cX9_wall 9 = .ok (.istore_n 3, 1) := by decide +kernel
theorem dX9_wall_10 : decode cX9_wall 10 = .ok (.aload_n 0, 1) := by decide +kernel
theorem dX9_wall_11 : decode cX9_wall 11 = .ok (.getfield 23, 3) := by decide +kernel
theorem dX9_wall_14 : decode cX9_wall 14 = .ok (.getfield 162, 3) := by decide +kernel
theorem dX9_wall_17 : decode cX9_wall 17 = .ok (.iload_n 1, 1) := by decide +kernel
theorem dX9_wall_18 : decode cX9_wall 18 = .ok (.invokevirtual 125, 3) := by decide +kernel
theorem dX9_wall_21 : decode cX9_wall 21 = .ok (.ifCond .eq 19, 3) := by decide +kernel
theorem dX9_wall_24 : decode cX9_wall 24 = .ok (.aload_n 0, 1) := by decide +kernel
theorem dX9_wall_25 : decode cX9_wall 25 = .ok (.getfield 23, 3) := by decide +kernel
theorem dX9_wall_28 : decode cX9_wall 28 = .ok (.getfield 162, 3) := by decide +kernel
theorem dX9_wall_31 : decode cX9_wall 31 = .ok (.iload_n 1, 1) := by decide +kernel
theorem dX9_wall_32 : decode cX9_wall 32 = .ok (.iconst 3, 1) := by decide +kernel
theorem dX9_wall_33 : decode cX9_wall 33 = .ok (.invokevirtual 136, 3) := by decide +kernel
theorem dX9_wall_36 : decode cX9_wall 36 = .ok (.iload_n 3, 1) := by decide +kernel
theorem dX9_wall_37 : decode cX9_wall 37 = .ok (.if_icmp .ne 5, 3) := by decide +kernel
theorem dX9_wall_40 : decode cX9_wall 40 = .ok (.iconst 0, 1) := by decide +kernel
theorem dX9_wall_41 : decode cX9_wall 41 = .ok (.ireturn, 1) := by decide +kernel
theorem dX9_wall_42 : decode cX9_wall 42 = .ok (.aload_n 0, 1) := by decide +kernel
theorem dX9_wall_43 : decode cX9_wall 43 = .ok (.getfield 23, 3) := by decide +kernel
theorem dX9_wall_46 : decode cX9_wall 46 = .ok (.getfield 162, 3) := by decide +kernel
theorem dX9_wall_49 : decode cX9_wall 49 = .ok (.iload_n 1, 1) := by decide +kernel
theorem dX9_wall_50 : decode cX9_wall 50 = .ok (.iconst 3, 1) := by decide +kernel
theorem dX9_wall_51 : decode cX9_wall 51 = .ok (.iload_n 3, 1) := by decide +kernel
theorem dX9_wall_52 : decode cX9_wall 52 = .ok (.invokevirtual 233, 3) := by decide +kernel
theorem dX9_wall_55 : decode cX9_wall 55 = .ok (.aload_n 0, 1) := by decide +kernel
theorem dX9_wall_56 : decode cX9_wall 56 = .ok (.iconst 2, 1) := by decide +kernel
theorem dX9_wall_57 : decode cX9_wall 57 = .ok (.iload_n 1, 1) := by decide +kernel
theorem dX9_wall_58 : decode cX9_wall 58 = .ok (.iconst 1, 1) := by decide +kernel
theorem dX9_wall_59 : decode cX9_wall 59 = .ok (.iload_n 3, 1) := by decide +kernel
theorem dX9_wall_60 : decode cX9_wall 60 = .ok (.isub, 1) := by decide +kernel
theorem dX9_wall_61 : decode cX9_wall 61 = .ok (.iconst 0, 1) := by decide +kernel
theorem dX9_wall_62 : decode cX9_wall 62 = .ok (.iconst 0, 1) := by decide +kernel
theorem dX9_wall_63 : decode cX9_wall 63 = .ok (.invokevirtual 229, 3) := by decide +kernel
theorem dX9_wall_66 : decode cX9_wall 66 = .ok (.iconst 1, 1) := by decide +kernel
theorem dX9_wall_67 : decode cX9_wall 67 = .ok (.ireturn, 1) := by decide +kernel
theorem dX9_sell_0 : decode cX9_sell 0 = .ok (.aload_n 0, 1) := by decide +kernel
theorem dX9_sell_1 : decode cX9_sell 1 = .ok (.getfield 23, 3) := by decide +kernel
theorem dX9_sell_4 : decode cX9_sell 4 = .ok (.getfield 159, 3) := by decide +kernel
theorem dX9_sell_7 : decode cX9_sell 7 = .ok (.iload_n 1, 1) := by decide +kernel
theorem dX9_sell_8 : decode cX9_sell 8 = .ok (.invokevirtual 125, 3) := by decide +kernel
theorem dX9_sell_11 : decode cX9_sell 11 = .ok (.ifCond .eq 28, 3) := by decide +kernel
theorem dX9_sell_14 : decode cX9_sell 14 = .ok (.aload_n 0, 1) := by decide +kernel
theorem dX9_sell_15 : decode cX9_sell 15 = .ok (.getfield 23, 3) := by decide +kernel
theorem dX9_sell_18 : decode cX9_sell 18 = .ok (.getfield 122, 3) := by decide +kernel
theorem dX9_sell_21 : decode cX9_sell 21 = .ok (.iload_n 2, 1) := by decide +kernel
theorem dX9_sell_22 : decode cX9_sell 22 = .ok (.invokevirtual 125, 3) := by decide +kernel
theorem dX9_sell_25 : decode cX9_sell 25 = .ok (.ifCond .eq 14, 3) := by decide +kernel
theorem dX9_sell_28 : decode cX9_sell 28 = .ok (.iload_n 3, 1) := by decide +kernel
theorem dX9_sell_29 : decode cX9_sell 29 = .ok (.ifCond .lt 10, 3) := by decide +kernel
theorem dX9_sell_32 : decode cX9_sell 32 = .ok (.iload_n 3, 1) := by decide +kernel
theorem dX9_sell_33 : decode cX9_sell 33 = .ok (.sipush 999, 3) := by decide +kernel
theorem dX9_sell_36 : decode cX9_sell 36 = .ok (.if_icmp .le 5, 3) := by decide +kernel
theorem dX9_sell_39 : decode cX9_sell 39 = .ok (.iconst 0, 1) := by decide +kernel
theorem dX9_sell_40 : decode cX9_sell 40 = .ok (.ireturn, 1) := by decide +kernel
theorem dX9_sell_41 : decode cX9_sell 41 = .ok (.aload_n 0, 1) := by decide +kernel
theorem dX9_sell_42 : decode cX9_sell 42 = .ok (.getfield 23, 3) := by decide +kernel
theorem dX9_sell_45 : decode cX9_sell 45 = .ok (.getfield 159, 3) := by decide +kernel
theorem dX9_sell_48 : decode cX9_sell 48 = .ok (.iload_n 1, 1) := by decide +kernel
theorem dX9_sell_49 : decode cX9_sell 49 = .ok (.iconst 0, 1) := by decide +kernel
theorem dX9_sell_50 : decode cX9_sell 50 = .ok (.invokevirtual 136, 3) := by decide +kernel
theorem dX9_sell_53 : decode cX9_sell 53 = .ok (.istore 4, 2) := by decide +kernel
theorem dX9_sell_55 : decode cX9_sell 55 = .ok (.iload 4, 2) := by decide +kernel
theorem dX9_sell_57 : decode cX9_sell 57 = .ok (.iload_n 2, 1) := by decide +kernel
theorem dX9_sell_58 : decode cX9_sell 58 = .ok (.if_icmp .eq 19, 3) := by decide +kernel
theorem dX9_sell_61 : decode cX9_sell 61 = .ok (.aload_n 0, 1) := by decide +kernel
theorem dX9_sell_62 : decode cX9_sell 62 = .ok (.getfield 23, 3) := by decide +kernel
theorem dX9_sell_65 : decode cX9_sell 65 = .ok (.getfield 122, 3) := by decide +kernel
theorem dX9_sell_68 : decode cX9_sell 68 = .ok (.iload_n 2, 1) := by decide +kernel
theorem dX9_sell_69 : decode cX9_sell 69 = .ok (.iconst 1, 1) := by decide +kernel
theorem dX9_sell_70 : decode cX9_sell 70 = .ok (.invokevirtual 136, 3) := by decide +kernel
theorem dX9_sell_73 : decode cX9_sell 73 = .ok (.iload_n 3, 1) := by decide +kernel
theorem dX9_sell_74 : decode cX9_sell 74 = .ok (.if_icmp .ge 5, 3) := by decide +kernel
theorem dX9_sell_77 : decode cX9_sell 77 = .ok (.iconst 0, 1) := by decide +kernel
theorem dX9_sell_78 : decode cX9_sell 78 = .ok (.ireturn, 1) := by decide +kernel
theorem dX9_sell_79 : decode cX9_sell 79 = .ok (.aload_n 0, 1) := by decide +kernel
theorem dX9_sell_80 : decode cX9_sell 80 = .ok (.getfield 23, 3) := by decide +kernel
theorem dX9_sell_83 : decode cX9_sell 83 = .ok (.getfield 159, 3) := by decide +kernel
theorem dX9_sell_86 : decode cX9_sell 86 = .ok (.iload_n 1, 1) := by decide +kernel
theorem dX9_sell_87 : decode cX9_sell 87 = .ok (.iconst 0, 1) := by decide +kernel
theorem dX9_sell_88 : decode cX9_sell 88 = .ok (.iload_n 2, 1) := by decide +kernel
theorem dX9_sell_89 : decode cX9_sell 89 = .ok (.invokevirtual 233, 3) := by decide +kernel
theorem dX9_sell_92 : decode cX9_sell 92 = .ok (.aload_n 0, 1) := by decide +kernel
theorem dX9_sell_93 : decode cX9_sell 93 = .ok (.getfield 23, 3) := by decide +kernel
theorem dX9_sell_96 : decode cX9_sell 96 = .ok (.iload_n 2, 1) := by decide +kernel
theorem dX9_sell_97 : decode cX9_sell 97 = .ok (.iload 4, 2) := by decide +kernel
theorem dX9_sell_99 : decode cX9_sell 99 = .ok (.iload_n 3, 1) := by decide +kernel
theorem dX9_sell_100 : decode cX9_sell 100 = .ok (.invokevirtual 237, 3) := by decide +kernel
theorem dX9_sell_103 : decode cX9_sell 103 = .ok (.aload_n 0, 1) := by decide +kernel
theorem dX9_sell_104 : decode cX9_sell 104 = .ok (.iconst 3, 1) := by decide +kernel
theorem dX9_sell_105 : decode cX9_sell 105 = .ok (.iload_n 1, 1) := by decide +kernel
theorem dX9_sell_106 : decode cX9_sell 106 = .ok (.iload 4, 2) := by decide +kernel
theorem dX9_sell_108 : decode cX9_sell 108 = .ok (.iload_n 2, 1) := by decide +kernel
theorem dX9_sell_109 : decode cX9_sell 109 = .ok (.iload_n 3, 1) := by decide +kernel
theorem dX9_sell_110 : decode cX9_sell 110 = .ok (.invokevirtual 229, 3) := by decide +kernel
theorem dX9_sell_113 : decode cX9_sell 113 = .ok (.iconst 1, 1) := by decide +kernel
theorem dX9_sell_114 : decode cX9_sell 114 = .ok (.ireturn, 1) := by decide +kernel
theorem dX9_go_0 : decode cX9_go 0 = .ok (.iload_n 1, 1) := by decide +kernel
theorem dX9_go_1 : decode cX9_go 1 = .ok (.ifCond .lt 17, 3) := by decide +kernel
theorem dX9_go_4 : decode cX9_go 4 = .ok (.iload_n 1, 1) := by decide +kernel
theorem dX9_go_5 : decode cX9_go 5 = .ok (.bipush 48, 2) := by decide +kernel
theorem dX9_go_7 : decode cX9_go 7 = .ok (.aload_n 0, 1) := by decide +kernel
theorem dX9_go_8 : decode cX9_go 8 = .ok (.getfield 23, 3) := by decide +kernel
theorem dX9_go_11 : decode cX9_go 11 = .ok (.getfield 240, 3) := by decide +kernel
theorem dX9_go_14 : decode cX9_go 14 = .ok (.isub, 1) := by decide +kernel
theorem dX9_go_15 : decode cX9_go 15 = .ok (.if_icmp .le 5, 3) := by decide +kernel
theorem dX9_go_18 : decode cX9_go 18 = .ok (.iconst (-1), 1) := by decide +kernel
theorem dX9_go_19 : decode cX9_go 19 = .ok (.ireturn, 1) := by decide +kernel
theorem dX9_go_20 : decode cX9_go 20 = .ok (.iconst 0, 1) := by decide +kernel
theorem dX9_go_21 : decode cX9_go 21 = .ok (.istore_n 2, 1) := by decide +kernel
theorem dX9_go_22 : decode cX9_go 22 = .ok (.iload_n 2, 1) := by decide +kernel
theorem dX9_go_23 : decode cX9_go 23 = .ok (.iload_n 1, 1) := by decide +kernel
theorem dX9_go_24 : decode cX9_go 24 = .ok (.if_icmp .ge 40, 3) := by decide +kernel
theorem dX9_go_27 : decode cX9_go 27 = .ok (.aload_n 0, 1) := by decide +kernel
theorem dX9_go_28 : decode cX9_go 28 = .ok (.invokevirtual 139, 3) := by decide +kernel
theorem dX9_go_31 : decode cX9_go 31 = .ok (.aload_n 0, 1) := by decide +kernel
theorem dX9_go_32 : decode cX9_go 32 = .ok (.getfield 23, 3) := by decide +kernel
theorem dX9_go_35 : decode cX9_go 35 = .ok (.aload_n 0, 1) := by decide +kernel
theorem dX9_go_36 : decode cX9_go 36 = .ok (.getfield 23, 3) := by decide +kernel
theorem dX9_go_39 : decode cX9_go 39 = .ok (.getfield 240, 3) := by decide +kernel
theorem dX9_go_42 : decode cX9_go 42 = .ok (.invokevirtual 243, 3) := by decide +kernel
theorem dX9_go_45 : decode cX9_go 45 = .ok (.aload_n 0, 1) := by decide +kernel
theorem dX9_go_46 : decode cX9_go 46 = .ok (.getfield 23, 3) := by decide +kernel
theorem dX9_go_49 : decode cX9_go 49 = .ok (.dup, 1) := by decide +kernel
theorem dX9_go_50 : decode cX9_go 50 = .ok (.getfield 240, 3) := by decide +kernel
theorem dX9_go_53 : decode cX9_go 53 = .ok (.iconst 1, 1) := by decide +kernel
theorem dX9_go_54 : decode cX9_go 54 = .ok (.iadd, 1) := by decide +kernel
theorem dX9_go_55 : decode cX9_go 55 = .ok (.putfield 240, 3) := by decide +kernel
theorem dX9_go_58 : decode cX9_go 58 = .ok (.iinc 2 1, 3) := by decide +kernel
theorem dX9_go_61 : decode cX9_go 61 = .ok (.goto (-39), 3) := by decide +kernel
theorem dX9_go_64 : decode cX9_go 64 = .ok (.iload_n 1, 1) := by decide +kernel
theorem dX9_go_65 : decode cX9_go 65 = .ok (.ifCond .le 10, 3) := by decide +kernel
theorem dX9_go_68 : decode cX9_go 68 = .ok (.aload_n 0, 1) := by decide +kernel
theorem dX9_go_69 : decode cX9_go 69 = .ok (.getfield 72, 3) := by decide +kernel
theorem dX9_go_72 : decode cX9_go 72 = .ok (.invokevirtual 102, 3) := by decide +kernel
theorem dX9_go_75 : decode cX9_go 75 = .ok (.aload_n 0, 1) := by decide +kernel
theorem dX9_go_76 : decode cX9_go 76 = .ok (.getfield 23, 3) := by decide +kernel
theorem dX9_go_79 : decode cX9_go 79 = .ok (.getfield 240, 3) := by decide +kernel
theorem dX9_go_82 : decode cX9_go 82 = .ok (.ireturn, 1) := by decide +kernel
theorem dX9_plan_0 : decode cX9_plan 0 = .ok (.aload_n 0, 1) := by decide +kernel
theorem dX9_plan_1 : decode cX9_plan 1 = .ok (.getfield 56, 3) := by decide +kernel
theorem dX9_plan_4 : decode cX9_plan 4 = .ok (.aload_n 0, 1) := by decide +kernel
theorem dX9_plan_5 : decode cX9_plan 5 = .ok (.getfield 23, 3) := by decide +kernel
theorem dX9_plan_8 : decode cX9_plan 8 = .ok (.aload_n 0, 1) := by decide +kernel
theorem dX9_plan_9 : decode cX9_plan 9 = .ok (.invokevirtual 139, 3) := by decide +kernel
theorem dX9_plan_12 : decode cX9_plan 12 = .ok (.invokevirtual 247, 3) := by decide +kernel
theorem dX9_plan_15 : decode cX9_plan 15 = .ok (.aload_n 0, 1) := by decide +kernel
theorem dX9_plan_16 : decode cX9_plan 16 = .ok (.getfield 56, 3) := by decide +kernel
theorem dX9_plan_19 : decode cX9_plan 19 = .ok (.getfield 251, 3) := by decide +kernel
theorem dX9_plan_22 : decode cX9_plan 22 = .ok (.ireturn, 1) := by decide +kernel
theorem dX9_planned_0 : decode cX9_planned 0 = .ok (.iload_n 1, 1) := by decide +kernel
theorem dX9_planned_1 : decode cX9_planned 1 = .ok (.ifCond .lt 12, 3) := by decide +kernel
theorem dX9_planned_4 : decode cX9_planned 4 = .ok (.iload_n 2, 1) := by decide +kernel
theorem dX9_planned_5 : decode cX9_planned 5 = .ok (.ifCond .lt 8, 3) := by decide +kernel
theorem dX9_planned_8 : decode cX9_planned 8 = .ok (.iload_n 2, 1) := by decide +kernel
theorem dX9_planned_9 : decode cX9_planned 9 = .ok (.iconst 1, 1) := by decide +kernel
theorem dX9_planned_10 : decode cX9_planned 10 = .ok (.if_icmp .le 5, 3) := by decide +kernel
theorem dX9_planned_13 : decode cX9_planned 13 = .ok (.iconst (-1), 1) := by decide +kernel
theorem dX9_planned_14 : decode cX9_planned 14 = .ok (.ireturn, 1) := by decide +kernel
theorem dX9_planned_15 : decode cX9_planned 15 = .ok (.aload_n 0, 1) := by decide +kernel
theorem dX9_planned_16 : decode cX9_planned 16 = .ok (.getfield 56, 3) := by decide +kernel
theorem dX9_planned_19 : decode cX9_planned 19 = .ok (.aload_n 0, 1) := by decide +kernel
theorem dX9_planned_20 : decode cX9_planned 20 = .ok (.getfield 23, 3) := by decide +kernel
theorem dX9_planned_23 : decode cX9_planned 23 = .ok (.aload_n 0, 1) := by decide +kernel
theorem dX9_planned_24 : decode cX9_planned 24 = .ok (.invokevirtual 139, 3) := by decide +kernel
theorem dX9_planned_27 : decode cX9_planned 27 = .ok (.invokevirtual 247, 3) := by decide +kernel
theorem dX9_planned_30 : decode cX9_planned 30 = .ok (.aload_n 0, 1) := by decide +kernel
theorem dX9_planned_31 : decode cX9_planned 31 = .ok (.getfield 56, 3) := by decide +kernel
theorem dX9_planned_34 : decode cX9_planned 34 = .ok (.getfield 251, 3) := by decide +kernel
theorem dX9_planned_37 : decode cX9_planned 37 = .ok (.ifCond .lt 17, 3) := by decide +kernel
theorem dX9_planned_40 : decode cX9_planned 40 = .ok (.iload_n 1, 1) := by decide +kernel
theorem dX9_planned_41 : decode cX9_planned 41 = .ok (.aload_n 0, 1) := by decide +kernel
theorem dX9_planned_42 : decode cX9_planned 42 = .ok (.getfield 23, 3) := by decide +kernel
theorem dX9_planned_45 : decode cX9_planned 45 = .ok (.getfield 254, 3) := by decide +kernel
theorem dX9_planned_48 : decode cX9_planned 48 = .ok (.getfield 208, 3) := by decide +kernel
theorem dX9_planned_51 : decode cX9_planned 51 = .ok (.if_icmp .lt 6, 3) := by decide +kernel
theorem dX9_planned_54 : decode cX9_planned 54 = .ok (.bipush (-2), 2) := by decide +kernel
theorem dX9_planned_56 : decode cX9_planned 56 = .ok (.ireturn, 1) := by decide +kernel
theorem dX9_planned_57 : decode cX9_planned 57 = .ok (.iload_n 2, 1) := by decide +kernel
theorem dX9_planned_58 : decode cX9_planned 58 = .ok (.ifCond .ne 14, 3) := by decide +kernel
theorem dX9_planned_61 : decode cX9_planned 61 = .ok (.aload_n 0, 1) := by decide +kernel
theorem dX9_planned_62 : decode cX9_planned 62 = .ok (.getfield 56, 3) := by decide +kernel
theorem dX9_planned_65 : decode cX9_planned 65 = .ok (.iload_n 1, 1) := by decide +kernel
theorem dX9_planned_66 : decode cX9_planned 66 = .ok (.invokevirtual 257, 3) := by decide +kernel
theorem dX9_planned_69 : decode cX9_planned 69 = .ok (.goto 11, 3) := by decide +kernel
theorem dX9_planned_72 : decode cX9_planned 72 = .ok (.aload_n 0, 1) := by decide +kernel
theorem dX9_planned_73 : decode cX9_planned 73 = .ok (.getfield 56, 3) := by decide +kernel
theorem dX9_planned_76 : decode cX9_planned 76 = .ok (.iload_n 1, 1) := by decide +kernel
theorem dX9_planned_77 : decode cX9_planned 77 = .ok (.invokevirtual 260, 3) := by decide +kernel
theorem dX9_planned_80 : decode cX9_planned 80 = .ok (.ireturn, 1) := by decide +kernel
theorem dX9_walls_0 : decode cX9_walls 0 = .ok (.aload_n 0, 1) := by decide +kernel
theorem dX9_walls_1 : decode cX9_walls 1 = .ok (.getfield 23, 3) := by decide +kernel
theorem dX9_walls_4 : decode cX9_walls 4 = .ok (.getfield 156, 3) := by decide +kernel
theorem dX9_walls_7 : decode cX9_walls 7 = .ok (.iload_n 1, 1) := by decide +kernel
theorem dX9_walls_8 : decode cX9_walls 8 = .ok (.invokevirtual 125, 3) := by decide +kernel
theorem dX9_walls_11 : decode cX9_walls 11 = .ok (.ifCond .eq 17, 3) := by decide +kernel
theorem dX9_walls_14 : decode cX9_walls 14 = .ok (.aload_n 0, 1) := by decide +kernel
theorem dX9_walls_15 : decode cX9_walls 15 = .ok (.getfield 23, 3) := by decide +kernel
theorem dX9_walls_18 : decode cX9_walls 18 = .ok (.getfield 115, 3) := by decide +kernel
theorem dX9_walls_21 : decode cX9_walls 21 = .ok (.iload_n 2, 1) := by decide +kernel
theorem dX9_walls_22 : decode cX9_walls 22 = .ok (.invokevirtual 125, 3) := by decide +kernel
theorem dX9_walls_25 : decode cX9_walls 25 = .ok (.ifCond .ne 5, 3) := by decide +kernel
theorem dX9_walls_28 : decode cX9_walls 28 = .ok (.iconst (-1), 1) := by decide +kernel
theorem dX9_walls_29 : decode cX9_walls 29 = .ok (.ireturn, 1) := by decide +kernel
theorem dX9_walls_30 : decode cX9_walls 30 = .ok (.aload_n 0, 1) := by decide +kernel
theorem dX9_walls_31 : decode cX9_walls 31 = .ok (.getfield 23, 3) := by decide +kernel
theorem dX9_walls_34 : decode cX9_walls 34 = .ok (.getfield 156, 3) := by decide +kernel
theorem dX9_walls_37 : decode cX9_walls 37 = .ok (.iload_n 1, 1) := by decide +kernel
theorem dX9_walls_38 : decode cX9_walls 38 = .ok (.iconst 5, 1) := by decide +kernel
theorem dX9_walls_39 : decode cX9_walls 39 = .ok (.invokevirtual 136, 3) := by decide +kernel
theorem dX9_walls_42 : decode cX9_walls 42 = .ok (.ifCond .eq 5, 3) := by decide +kernel
theorem dX9_walls_45 : decode cX9_walls 45 = .ok (.iconst 0, 1) := by decide +kernel
theorem dX9_walls_46 : decode cX9_walls 46 = .ok (.ireturn, 1) := by decide +kernel
theorem dX9_walls_47 : decode cX9_walls 47 = .ok (.aload_n 0, 1) := by decide +kernel
theorem dX9_walls_48 : decode cX9_walls 48 = .ok (.getfield 33, 3) := by decide +kernel
theorem dX9_walls_51 : decode cX9_walls 51 = .ok (.aload_n 0, 1) := by decide +kernel
theorem dX9_walls_52 : decode cX9_walls 52 = .ok (.getfield 23, 3) := by decide +kernel
theorem dX9_walls_55 : decode cX9_walls 55 = .ok (.invokevirtual 263, 3) := by decide +kernel
theorem dX9_walls_58 : decode cX9_walls 58 = .ok (.iconst 0, 1) := by decide +kernel
theorem dX9_walls_59 : decode cX9_walls 59 = .ok (.istore_n 3, 1) := by decide +kernel
theorem dX9_walls_60 : decode cX9_walls 60 = .ok (.iload_n 3, 1) := by decide +kernel
theorem dX9_walls_61 : decode cX9_walls 61 = .ok (.bipush 90, 2) := by decide +kernel
theorem dX9_walls_63 : decode cX9_walls 63 = .ok (.if_icmp .gt 16, 3) := by decide +kernel
theorem dX9_walls_66 : decode cX9_walls 66 = .ok (.aload_n 0, 1) := by decide +kernel
theorem dX9_walls_67 : decode cX9_walls 67 = .ok (.getfield 80, 3) := by decide +kernel
theorem dX9_walls_70 : decode cX9_walls 70 = .ok (.iload_n 3, 1) := by decide +kernel
theorem dX9_walls_71 : decode cX9_walls 71 = .ok (.iconst (-1), 1) := by decide +kernel
theorem dX9_walls_72 : decode cX9_walls 72 = .ok (.iastore, 1) := by decide +kernel
theorem dX9_walls_73 : decode cX9_walls 73 = .ok (.iinc 3 1, 3) := by decide +kernel
theorem dX9_walls_76 : decode cX9_walls 76 = .ok (.goto (-16), 3) := by decide +kernel
theorem dX9_walls_79 : decode cX9_walls 79 = .ok (.bipush (-2), 2) := by decide +kernel
theorem dX9_walls_81 : decode cX9_walls 81 = .ok (.istore_n 3, 1) := by decide +kernel
theorem dX9_walls_82 : decode cX9_walls 82 = .ok (.bipush 10, 2) := by decide +kernel
theorem dX9_walls_84 : decode cX9_walls 84 = .ok (.istore 4, 2) := by decide +kernel
theorem dX9_walls_86 : decode cX9_walls 86 = .ok (.iconst 0, 1) := by decide +kernel
theorem dX9_walls_87 : decode cX9_walls 87 = .ok (.istore 5, 2) := by decide +kernel
theorem dX9_walls_89 : decode cX9_walls 89 = .ok (.iload 5, 2) := by decide +kernel
theorem dX9_walls_91 : decode cX9_walls 91 = .ok (.iconst 1, 1) := by decide +kernel
theorem dX9_walls_92 : decode cX9_walls 92 = .ok (.aload_n 0, 1) := by decide +kernel
theorem dX9_walls_93 : decode cX9_walls 93 = .ok (.getfield 23, 3) := by decide +kernel
theorem dX9_walls_96 : decode cX9_walls 96 = .ok (.getfield 162, 3) := by decide +kernel
theorem dX9_walls_99 : decode cX9_walls 99 = .ok (.getfield 208, 3) := by decide +kernel
theorem dX9_walls_102 : decode cX9_walls 102 = .ok (.ishl, 1) := by decide +kernel
theorem dX9_walls_103 : decode cX9_walls 103 = .ok (.if_icmp .ge 48, 3) := by decide +kernel
theorem dX9_walls_106 : decode cX9_walls 106 = .ok (.iload 5, 2) := by decide +kernel
theorem dX9_walls_108 : decode cX9_walls 108 = .ok (.invokestatic 267, 3) := by decide +kernel
theorem dX9_walls_111 : decode cX9_walls 111 = .ok (.istore 6, 2) := by decide +kernel
theorem dX9_walls_113 : decode cX9_walls 113 = .ok (.iload 6, 2) := by decide +kernel
theorem dX9_walls_115 : decode cX9_walls 115 = .ok (.iload 4, 2) := by decide +kernel
theorem dX9_walls_117 : decode cX9_walls 117 = .ok (.if_icmp .ge 28, 3) := by decide +kernel
theorem dX9_walls_120 : decode cX9_walls 120 = .ok (.aload_n 0, 1) := by decide +kernel
theorem dX9_walls_121 : decode cX9_walls 121 = .ok (.iload 5, 2) := by decide +kernel
theorem dX9_walls_123 : decode cX9_walls 123 = .ok (.invokevirtual 272, 3) := by decide +kernel
theorem dX9_walls_126 : decode cX9_walls 126 = .ok (.ifCond .eq 19, 3) := by decide +kernel
theorem dX9_walls_129 : decode cX9_walls 129 = .ok (.aload_n 0, 1) := by decide +kernel
theorem dX9_walls_130 : decode cX9_walls 130 = .ok (.iload_n 1, 1) := by decide +kernel
theorem dX9_walls_131 : decode cX9_walls 131 = .ok (.iload_n 2, 1) := by decide +kernel
theorem dX9_walls_132 : decode cX9_walls 132 = .ok (.invokevirtual 275, 3) := by decide +kernel
theorem dX9_walls_135 : decode cX9_walls 135 = .ok (.ifCond .ne 10, 3) := by decide +kernel
theorem dX9_walls_138 : decode cX9_walls 138 = .ok (.iload 5, 2) := by decide +kernel
theorem dX9_walls_140 : decode cX9_walls 140 = .ok (.istore_n 3, 1) := by decide +kernel
theorem dX9_walls_141 : decode cX9_walls 141 = .ok (.iload 6, 2) := by decide +kernel
theorem dX9_walls_143 : decode cX9_walls 143 = .ok (.istore 4, 2) := by decide +kernel
theorem dX9_walls_145 : decode cX9_walls 145 = .ok (.iinc 5 1, 3) := by decide +kernel
theorem dX9_walls_148 : decode cX9_walls 148 = .ok (.goto (-59), 3) := by decide +kernel
theorem dX9_walls_151 : decode cX9_walls 151 = .ok (.iload_n 3, 1) := by decide +kernel
theorem dX9_walls_152 : decode cX9_walls 152 = .ok (.ireturn, 1) := by decide +kernel
theorem dX9_buildOnTrial_0 : decode cX9_buildOnTrial 0 = .ok (.iconst 0, 1) := by decide +kernel
theorem dX9_buildOnTrial_1 : decode cX9_buildOnTrial 1 = .ok (.istore_n 2, 1) := by decide +kernel
theorem dX9_buildOnTrial_2 : decode cX9_buildOnTrial 2 = .ok (.iload_n 2, 1) := by decide +kernel
theorem dX9_buildOnTrial_3 : decode cX9_buildOnTrial 3 = .ok (.aload_n 0, 1) := by decide +kernel
theorem dX9_buildOnTrial_4 : decode cX9_buildOnTrial 4 = .ok (.getfield 23, 3) := by decide +kernel
theorem dX9_buildOnTrial_7 : decode cX9_buildOnTrial 7 = .ok (.getfield 162, 3) := by decide +kernel
theorem dX9_buildOnTrial_10 : decode cX9_buildOnTrial 10 = .ok (.getfield 208, 3) := by decide +kernel
theorem dX9_buildOnTrial_13 : decode cX9_buildOnTrial 13 = .ok (.if_icmp .ge 58, 3) := by decide +kernel
theorem dX9_buildOnTrial_16 : decode cX9_buildOnTrial 16 = .ok (.aload_n 0, 1) := by decide +kernel
theorem dX9_buildOnTrial_17 : decode cX9_buildOnTrial 17 = .ok (.getfield 23, 3) := by decide +kernel
theorem dX9_buildOnTrial_20 : decode cX9_buildOnTrial 20 = .ok (.getfield 162, 3) := by decide +kernel
theorem dX9_buildOnTrial_23 : decode cX9_buildOnTrial 23 = .ok (.iload_n 2, 1) := by decide +kernel
theorem dX9_buildOnTrial_24 : decode cX9_buildOnTrial 24 = .ok (.iconst 3, 1) := by decide +kernel
theorem dX9_buildOnTrial_25 : decode cX9_buildOnTrial 25 = .ok (.invokevirtual 136, 3) := by decide +kernel
theorem dX9_buildOnTrial_28 : decode cX9_buildOnTrial 28 = .ok (.istore_n 3, 1) := by decide +kernel
theorem dX9_buildOnTrial_29 : decode cX9_buildOnTrial 29 = .ok (.iload_n 1, 1) := by decide +kernel
theorem dX9_buildOnTrial_30 : decode cX9_buildOnTrial 30 = .ok (.iload_n 2, 1) := by decide +kernel
theorem dX9_buildOnTrial_31 : decode cX9_buildOnTrial 31 = .ok (.ishr, 1) := by decide +kernel
theorem dX9_buildOnTrial_32 : decode cX9_buildOnTrial 32 = .ok (.iconst 1, 1) := by decide +kernel
theorem dX9_buildOnTrial_33 : decode cX9_buildOnTrial 33 = .ok (.iand, 1) := by decide +kernel
theorem dX9_buildOnTrial_34 : decode cX9_buildOnTrial 34 = .ok (.istore 4, 2) := by decide +kernel
theorem dX9_buildOnTrial_36 : decode cX9_buildOnTrial 36 = .ok (.iload_n 3, 1) := by decide +kernel
theorem dX9_buildOnTrial_37 : decode cX9_buildOnTrial 37 = .ok (.iconst 1, 1) := by decide +kernel
theorem dX9_buildOnTrial_38 : decode cX9_buildOnTrial 38 = .ok (.if_icmp .ne 11, 3) := by decide +kernel
theorem dX9_buildOnTrial_41 : decode cX9_buildOnTrial 41 = .ok (.iload 4, 2) := by decide +kernel
theorem dX9_buildOnTrial_43 : decode cX9_buildOnTrial 43 = .ok (.iconst 1, 1) := by decide +kernel
theorem dX9_buildOnTrial_44 : decode cX9_buildOnTrial 44 = .ok (.if_icmp .ne 5, 3) := by decide +kernel
theorem dX9_buildOnTrial_47 : decode cX9_buildOnTrial 47 = .ok (.iconst 0, 1) := by decide +kernel
theorem dX9_buildOnTrial_48 : decode cX9_buildOnTrial 48 = .ok (.ireturn, 1) := by decide +kernel
theorem dX9_buildOnTrial_49 : decode cX9_buildOnTrial 49 = .ok (.aload_n 0, 1) := by decide +kernel
theorem dX9_buildOnTrial_50 : decode cX9_buildOnTrial 50 = .ok (.getfield 33, 3) := by decide +kernel
theorem dX9_buildOnTrial_53 : decode cX9_buildOnTrial 53 = .ok (.getfield 162, 3) := by decide +kernel
theorem dX9_buildOnTrial_56 : decode cX9_buildOnTrial 56 = .ok (.iload_n 2, 1) := by decide +kernel
theorem dX9_buildOnTrial_57 : decode cX9_buildOnTrial 57 = .ok (.iconst 3, 1) := by decide +kernel
theorem dX9_buildOnTrial_58 : decode cX9_buildOnTrial 58 = .ok (.iload_n 3, 1) := by decide +kernel
theorem dX9_buildOnTrial_59 : decode cX9_buildOnTrial 59 = .ok (.iload 4, 2) := by decide +kernel
theorem dX9_buildOnTrial_61 : decode cX9_buildOnTrial 61 = .ok (.iadd, 1) := by decide +kernel
theorem dX9_buildOnTrial_62 : decode cX9_buildOnTrial 62 = .ok (.invokevirtual 233, 3) := by decide +kernel
theorem dX9_buildOnTrial_65 : decode cX9_buildOnTrial 65 = .ok (.iinc 2 1, 3) := by decide +kernel
theorem dX9_buildOnTrial_68 : decode cX9_buildOnTrial 68 = .ok (.goto (-66), 3) := by decide +kernel
theorem dX9_buildOnTrial_71 : decode cX9_buildOnTrial 71 = .ok (.iconst 1, 1) := by decide +kernel
theorem dX9_buildOnTrial_72 : decode cX9_buildOnTrial 72 = .ok (.ireturn, 1) := by decide +kernel
theorem dX9_trialReaches_0 : decode cX9_trialReaches 0 = .ok (.aload_n 0, 1) := by decide +kernel
theorem dX9_trialReaches_1 : decode cX9_trialReaches 1 = .ok (.getfield 43, 3) := by decide +kernel
theorem dX9_trialReaches_4 : decode cX9_trialReaches 4 = .ok (.aload_n 0, 1) := by decide +kernel
theorem dX9_trialReaches_5 : decode cX9_trialReaches 5 = .ok (.getfield 33, 3) := by decide +kernel
theorem dX9_trialReaches_8 : decode cX9_trialReaches 8 = .ok (.iconst (-1), 1) := by decide +kernel
theorem dX9_trialReaches_9 : decode cX9_trialReaches 9 = .ok (.invokevirtual 279, 3) := by decide +kernel
theorem dX9_trialReaches_12 : decode cX9_trialReaches 12 = .ok (.aload_n 0, 1) := by decide +kernel
theorem dX9_trialReaches_13 : decode cX9_trialReaches 13 = .ok (.getfield 33, 3) := by decide +kernel
theorem dX9_trialReaches_16 : decode cX9_trialReaches 16 = .ok (.getfield 156, 3) := by decide +kernel
theorem dX9_trialReaches_19 : decode cX9_trialReaches 19 = .ok (.astore_n 3, 1) := by decide +kernel
theorem dX9_trialReaches_20 : decode cX9_trialReaches 20 = .ok (.aload_n 3, 1) := by decide +kernel
theorem dX9_trialReaches_21 : decode cX9_trialReaches 21 = .ok (.iload_n 1, 1) := by decide +kernel
theorem dX9_trialReaches_22 : decode cX9_trialReaches 22 = .ok (.iconst 0, 1) := by decide +kernel
theorem dX9_trialReaches_23 : decode cX9_trialReaches 23 = .ok (.invokevirtual 136, 3) := by decide +kernel
theorem dX9_trialReaches_26 : decode cX9_trialReaches 26 = .ok (.istore 4, 2) := by decide +kernel
theorem dX9_trialReaches_28 : decode cX9_trialReaches 28 = .ok (.aload_n 0, 1) := by decide +kernel
theorem dX9_trialReaches_29 : decode cX9_trialReaches 29 = .ok (.getfield 43, 3) := by decide +kernel
theorem dX9_trialReaches_32 : decode cX9_trialReaches 32 = .ok (.iload 4, 2) := by decide +kernel
theorem dX9_trialReaches_34 : decode cX9_trialReaches 34 = .ok (.iload_n 2, 1) := by decide +kernel
theorem dX9_trialReaches_35 : decode cX9_trialReaches 35 = .ok (.invokevirtual 165, 3) := by decide +kernel
theorem dX9_trialReaches_38 : decode cX9_trialReaches 38 = .ok (.istore 5, 2) := by decide +kernel
theorem dX9_trialReaches_40 : decode cX9_trialReaches 40 = .ok (.iload 5, 2) := by decide +kernel
theorem dX9_trialReaches_42 : decode cX9_trialReaches 42 = .ok (.ifCond .lt 10, 3) := by decide +kernel
theorem dX9_trialReaches_45 : decode cX9_trialReaches 45 = .ok (.iload 5, 2) := by decide +kernel
theorem dX9_trialReaches_47 : decode cX9_trialReaches 47 = .ok (.bipush 90, 2) := by decide +kernel
theorem dX9_trialReaches_49 : decode cX9_trialReaches 49 = .ok (.if_icmp .le 5, 3) := by decide +kernel
theorem dX9_trialReaches_52 : decode cX9_trialReaches 52 = .ok (.iconst 0, 1) := by decide +kernel
theorem dX9_trialReaches_53 : decode cX9_trialReaches 53 = .ok (.ireturn, 1) := by decide +kernel
theorem dX9_trialReaches_54 : decode cX9_trialReaches 54 = .ok (.aload_n 0, 1) := by decide +kernel
theorem dX9_trialReaches_55 : decode cX9_trialReaches 55 = .ok (.getfield 80, 3) := by decide +kernel
theorem dX9_trialReaches_58 : decode cX9_trialReaches 58 = .ok (.iload 5, 2) := by decide +kernel
theorem dX9_trialReaches_60 : decode cX9_trialReaches 60 = .ok (.iaload, 1) := by decide +kernel
theorem dX9_trialReaches_61 : decode cX9_trialReaches 61 = .ok (.iconst (-1), 1) := by decide +kernel
theorem dX9_trialReaches_62 : decode cX9_trialReaches 62 = .ok (.if_icmp .ne 56, 3) := by decide +kernel
theorem dX9_trialReaches_65 : decode cX9_trialReaches 65 = .ok (.aload_n 0, 1) := by decide +kernel
theorem dX9_trialReaches_66 : decode cX9_trialReaches 66 = .ok (.getfield 43, 3) := by decide +kernel
theorem dX9_trialReaches_69 : decode cX9_trialReaches 69 = .ok (.aload_n 0, 1) := by decide +kernel
theorem dX9_trialReaches_70 : decode cX9_trialReaches 70 = .ok (.getfield 33, 3) := by decide +kernel
theorem dX9_trialReaches_73 : decode cX9_trialReaches 73 = .ok (.iload 4, 2) := by decide +kernel
theorem dX9_trialReaches_75 : decode cX9_trialReaches 75 = .ok (.aload_n 3, 1) := by decide +kernel
theorem dX9_trialReaches_76 : decode cX9_trialReaches 76 = .ok (.iload_n 1, 1) := by decide +kernel
theorem dX9_trialReaches_77 : decode cX9_trialReaches 77 = .ok (.iconst 2, 1) := by decide +kernel
theorem dX9_trialReaches_78 : decode cX9_trialReaches 78 = .ok (.invokevirtual 136, 3) := by decide +kernel
theorem dX9_trialReaches_81 : decode cX9_trialReaches 81 = .ok (.aload_n 3, 1) := by decide +kernel
theorem dX9_trialReaches_82 : decode cX9_trialReaches 82 = .ok (.iload_n 1, 1) := by decide +kernel
theorem dX9_trialReaches_83 : decode cX9_trialReaches 83 = .ok (.iconst 3, 1) := by decide +kernel
theorem dX9_trialReaches_84 : decode cX9_trialReaches 84 = .ok (.invokevirtual 136, 3) := by decide +kernel
theorem dX9_trialReaches_87 : decode cX9_trialReaches 87 = .ok (.aload_n 3, 1) := by decide +kernel
theorem dX9_trialReaches_88 : decode cX9_trialReaches 88 = .ok (.iload_n 1, 1) := by decide +kernel
theorem dX9_trialReaches_89 : decode cX9_trialReaches 89 = .ok (.iconst 4, 1) := by decide +kernel
theorem dX9_trialReaches_90 : decode cX9_trialReaches 90 = .ok (.invokevirtual 136, 3) := by decide +kernel
theorem dX9_trialReaches_93 : decode cX9_trialReaches 93 = .ok (.iload_n 2, 1) := by decide +kernel
theorem dX9_trialReaches_94 : decode cX9_trialReaches 94 = .ok (.invokevirtual 282, 3) := by decide +kernel
theorem dX9_trialReaches_97 : decode cX9_trialReaches 97 = .ok (.lstore 6, 2) := by decide +kernel
theorem dX9_trialReaches_99 : decode cX9_trialReaches 99 = .ok (.aload_n 0, 1) := by decide +kernel
theorem dX9_trialReaches_100 : decode cX9_trialReaches 100 = .ok (.getfield 80, 3) := by decide +kernel
theorem dX9_trialReaches_103 : decode cX9_trialReaches 103 = .ok (.iload 5, 2) := by decide +kernel
theorem dX9_trialReaches_105 : decode cX9_trialReaches 105 = .ok (.lload 6, 2) := by decide +kernel
theorem dX9_trialReaches_107 : decode cX9_trialReaches 107 = .ok (.lconst 0, 1) := by decide +kernel
theorem dX9_trialReaches_108 : decode cX9_trialReaches 108 = .ok (.lcmp, 1) := by decide +kernel
theorem dX9_trialReaches_109 : decode cX9_trialReaches 109 = .ok (.ifCond .ne 7, 3) := by decide +kernel
theorem dX9_trialReaches_112 : decode cX9_trialReaches 112 = .ok (.iconst 0, 1) := by decide +kernel
theorem dX9_trialReaches_113 : decode cX9_trialReaches 113 = .ok (.goto 4, 3) := by decide +kernel
theorem dX9_trialReaches_116 : decode cX9_trialReaches 116 = .ok (.iconst 1, 1) := by decide +kernel
theorem dX9_trialReaches_117 : decode cX9_trialReaches 117 = .ok (.iastore, 1) := by decide +kernel
theorem dX9_trialReaches_118 : decode cX9_trialReaches 118 = .ok (.aload_n 0, 1) := by decide +kernel
theorem dX9_trialReaches_119 : decode cX9_trialReaches 119 = .ok (.getfield 80, 3) := by decide +kernel
theorem dX9_trialReaches_122 : decode cX9_trialReaches 122 = .ok (.iload 5, 2) := by decide +kernel
theorem dX9_trialReaches_124 : decode cX9_trialReaches 124 = .ok (.iaload, 1) := by decide +kernel
theorem dX9_trialReaches_125 : decode cX9_trialReaches 125 = .ok (.iconst 1, 1) := by decide +kernel
theorem dX9_trialReaches_126 : decode cX9_trialReaches 126 = .ok (.if_icmp .ne 7, 3) := by decide +kernel
theorem dX9_trialReaches_129 : decode cX9_trialReaches 129 = .ok (.iconst 1, 1) := by decide +kernel
theorem dX9_trialReaches_130 : decode cX9_trialReaches 130 = .ok (.goto 4, 3) := by decide +kernel
theorem dX9_trialReaches_133 : decode cX9_trialReaches 133 = .ok (.iconst 0, 1) := by decide +kernel
theorem dX9_trialReaches_134 : decode cX9_trialReaches 134 = .ok (.ireturn, 1) := by decide +kernel
theorem dX9_bark_0 : decode cX9_bark 0 = .ok (.iload_n 1, 1) := by decide +kernel
theorem dX9_bark_1 : decode cX9_bark 1 = .ok (.ifCond .lt 26, 3) := by decide +kernel
theorem dX9_bark_4 : decode cX9_bark 4 = .ok (.iload_n 2, 1) := by decide +kernel
theorem dX9_bark_5 : decode cX9_bark 5 = .ok (.ifCond .lt 22, 3) := by decide +kernel
theorem dX9_bark_8 : decode cX9_bark 8 = .ok (.iload_n 2, 1) := by decide +kernel
theorem dX9_bark_9 : decode cX9_bark 9 = .ok (.iconst 2, 1) := by decide +kernel
theorem dX9_bark_10 : decode cX9_bark 10 = .ok (.if_icmp .gt 17, 3) := by decide +kernel
theorem dX9_bark_13 : decode cX9_bark 13 = .ok (.iload_n 1, 1) := by decide +kernel
theorem dX9_bark_14 : decode cX9_bark 14 = .ok (.aload_n 0, 1) := by decide +kernel
theorem dX9_bark_15 : decode cX9_bark 15 = .ok (.getfield 23, 3) := by decide +kernel
theorem dX9_bark_18 : decode cX9_bark 18 = .ok (.invokevirtual 286, 3) := by decide +kernel
theorem dX9_bark_21 : decode cX9_bark 21 = .ok (.iconst (-1), 1) := by decide +kernel
theorem dX9_bark_22 : decode cX9_bark 22 = .ok (.ixor, 1) := by decide +kernel
theorem dX9_bark_23 : decode cX9_bark 23 = .ok (.iand, 1) := by decide +kernel
theorem dX9_bark_24 : decode cX9_bark 24 = .ok (.ifCond .eq 5, 3) := by decide +kernel
theorem dX9_bark_27 : decode cX9_bark 27 = .ok (.iconst (-1), 1) := by decide +kernel
theorem dX9_bark_28 : decode cX9_bark 28 = .ok (.ireturn, 1) := by decide +kernel
theorem dX9_bark_29 : decode cX9_bark 29 = .ok (.iconst 0, 1) := by decide +kernel
theorem dX9_bark_30 : decode cX9_bark 30 = .ok (.istore_n 3, 1) := by decide +kernel
theorem dX9_bark_31 : decode cX9_bark 31 = .ok (.iload_n 3, 1) := by decide +kernel
theorem dX9_bark_32 : decode cX9_bark 32 = .ok (.bipush 64, 2) := by decide +kernel
theorem dX9_bark_34 : decode cX9_bark 34 = .ok (.if_icmp .ge 16, 3) := by decide +kernel
theorem dX9_bark_37 : decode cX9_bark 37 = .ok (.aload_n 0, 1) := by decide +kernel
theorem dX9_bark_38 : decode cX9_bark 38 = .ok (.getfield 76, 3) := by decide +kernel
theorem dX9_bark_41 : decode cX9_bark 41 = .ok (.iload_n 3, 1) := by decide +kernel
theorem dX9_bark_42 : decode cX9_bark 42 = .ok (.iconst (-1), 1) := by decide +kernel
theorem dX9_bark_43 : decode cX9_bark 43 = .ok (.iastore, 1) := by decide +kernel
theorem dX9_bark_44 : decode cX9_bark 44 = .ok (.iinc 3 1, 3) := by decide +kernel
theorem dX9_bark_47 : decode cX9_bark 47 = .ok (.goto (-16), 3) := by decide +kernel
theorem dX9_bark_50 : decode cX9_bark 50 = .ok (.aload_n 0, 1) := by decide +kernel
theorem dX9_bark_51 : decode cX9_bark 51 = .ok (.invokevirtual 139, 3) := by decide +kernel
theorem dX9_bark_54 : decode cX9_bark 54 = .ok (.astore_n 3, 1) := by decide +kernel
theorem dX9_bark_55 : decode cX9_bark 55 = .ok (.iload_n 1, 1) := by decide +kernel
theorem dX9_bark_56 : decode cX9_bark 56 = .ok (.istore 4, 2) := by decide +kernel
theorem dX9_bark_58 : decode cX9_bark 58 = .ok (.iconst 0, 1) := by decide +kernel
theorem dX9_bark_59 : decode cX9_bark 59 = .ok (.istore 5, 2) := by decide +kernel
theorem dX9_bark_61 : decode cX9_bark 61 = .ok (.iconst 0, 1) := by decide +kernel
theorem dX9_bark_62 : decode cX9_bark 62 = .ok (.istore 6, 2) := by decide +kernel
theorem dX9_bark_64 : decode cX9_bark 64 = .ok (.iload 6, 2) := by decide +kernel
theorem dX9_bark_66 : decode cX9_bark 66 = .ok (.bipush 64, 2) := by decide +kernel
theorem dX9_bark_68 : decode cX9_bark 68 = .ok (.if_icmp .gt 58, 3) := by decide +kernel
theorem dX9_bark_71 : decode cX9_bark 71 = .ok (.iload 4, 2) := by decide +kernel
theorem dX9_bark_73 : decode cX9_bark 73 = .ok (.invokestatic 290, 3) := by decide +kernel
theorem dX9_bark_76 : decode cX9_bark 76 = .ok (.ifCond .eq 50, 3) := by decide +kernel
theorem dX9_bark_79 : decode cX9_bark 79 = .ok (.aload_n 0, 1) := by decide +kernel
theorem dX9_bark_80 : decode cX9_bark 80 = .ok (.getfield 76, 3) := by decide +kernel
theorem dX9_bark_83 : decode cX9_bark 83 = .ok (.iload 4, 2) := by decide +kernel
theorem dX9_bark_85 : decode cX9_bark 85 = .ok (.iaload, 1) := by decide +kernel
theorem dX9_bark_86 : decode cX9_bark 86 = .ok (.iconst (-1), 1) := by decide +kernel
theorem dX9_bark_87 : decode cX9_bark 87 = .ok (.if_icmp .ne 39, 3) := by decide +kernel
theorem dX9_bark_90 : decode cX9_bark 90 = .ok (.aload_n 0, 1) := by decide +kernel
theorem dX9_bark_91 : decode cX9_bark 91 = .ok (.getfield 76, 3) := by decide +kernel
theorem dX9_bark_94 : decode cX9_bark 94 = .ok (.iload 4, 2) := by decide +kernel
theorem dX9_bark_96 : decode cX9_bark 96 = .ok (.iload 6, 2) := by decide +kernel
theorem dX9_bark_98 : decode cX9_bark 98 = .ok (.iastore, 1) := by decide +kernel
theorem dX9_bark_99 : decode cX9_bark 99 = .ok (.iload 5, 2) := by decide +kernel
theorem dX9_bark_101 : decode cX9_bark 101 = .ok (.iload 4, 2) := by decide +kernel
theorem dX9_bark_103 : decode cX9_bark 103 = .ok (.invokestatic 267, 3) := by decide +kernel
theorem dX9_bark_106 : decode cX9_bark 106 = .ok (.invokestatic 293, 3) := by decide +kernel
theorem dX9_bark_109 : decode cX9_bark 109 = .ok (.istore 5, 2) := by decide +kernel
theorem dX9_bark_111 : decode cX9_bark 111 = .ok (.aload_n 0, 1) := by decide +kernel
theorem dX9_bark_112 : decode cX9_bark 112 = .ok (.aload_n 3, 1) := by decide +kernel
theorem dX9_bark_113 : decode cX9_bark 113 = .ok (.iload 4, 2) := by decide +kernel
theorem dX9_bark_115 : decode cX9_bark 115 = .ok (.invokevirtual 298, 3) := by decide +kernel
theorem dX9_bark_118 : decode cX9_bark 118 = .ok (.istore 4, 2) := by decide +kernel
theorem dX9_bark_120 : decode cX9_bark 120 = .ok (.iinc 6 1, 3) := by decide +kernel
theorem dX9_bark_123 : decode cX9_bark 123 = .ok (.goto (-59), 3) := by decide +kernel
theorem dX9_bark_126 : decode cX9_bark 126 = .ok (.iload_n 2, 1) := by decide +kernel
theorem dX9_bark_127 : decode cX9_bark 127 = .ok (.iconst 2, 1) := by decide +kernel
theorem dX9_bark_128 : decode cX9_bark 128 = .ok (.if_icmp .ne 6, 3) := by decide +kernel
theorem dX9_bark_131 : decode cX9_bark 131 = .ok (.iload 5, 2) := by decide +kernel
theorem dX9_bark_133 : decode cX9_bark 133 = .ok (.ireturn, 1) := by decide +kernel
theorem dX9_bark_134 : decode cX9_bark 134 = .ok (.iload 4, 2) := by decide +kernel
theorem dX9_bark_136 : decode cX9_bark 136 = .ok (.invokestatic 290, 3) := by decide +kernel
theorem dX9_bark_139 : decode cX9_bark 139 = .ok (.ifCond .ne 14, 3) := by decide +kernel
theorem dX9_bark_142 : decode cX9_bark 142 = .ok (.iload_n 2, 1) := by decide +kernel
theorem dX9_bark_143 : decode cX9_bark 143 = .ok (.ifCond .ne 8, 3) := by decide +kernel
theorem dX9_bark_146 : decode cX9_bark 146 = .ok (.iload 6, 2) := by decide +kernel
theorem dX9_bark_148 : decode cX9_bark 148 = .ok (.goto 4, 3) := by decide +kernel
theorem dX9_bark_151 : decode cX9_bark 151 = .ok (.iconst 0, 1) := by decide +kernel
theorem dX9_bark_152 : decode cX9_bark 152 = .ok (.ireturn, 1) := by decide +kernel
theorem dX9_bark_153 : decode cX9_bark 153 = .ok (.iload_n 2, 1) := by decide +kernel
theorem dX9_bark_154 : decode cX9_bark 154 = .ok (.ifCond .ne 8, 3) := by decide +kernel
theorem dX9_bark_157 : decode cX9_bark 157 = .ok (.bipush (-2), 2) := by decide +kernel
theorem dX9_bark_159 : decode cX9_bark 159 = .ok (.goto 13, 3) := by decide +kernel
theorem dX9_bark_162 : decode cX9_bark 162 = .ok (.iload 6, 2) := by decide +kernel
theorem dX9_bark_164 : decode cX9_bark 164 = .ok (.aload_n 0, 1) := by decide +kernel
theorem dX9_bark_165 : decode cX9_bark 165 = .ok (.getfield 76, 3) := by decide +kernel
theorem dX9_bark_168 : decode cX9_bark 168 = .ok (.iload 4, 2) := by decide +kernel
theorem dX9_bark_170 : decode cX9_bark 170 = .ok (.iaload, 1) := by decide +kernel
theorem dX9_bark_171 : decode cX9_bark 171 = .ok (.isub, 1) := by decide +kernel
theorem dX9_bark_172 : decode cX9_bark 172 = .ok (.ireturn, 1) := by decide +kernel
theorem dX9_isState_0 : decode cX9_isState 0 = .ok (.iload_n 0, 1) := by decide +kernel
theorem dX9_isState_1 : decode cX9_isState 1 = .ok (.ifCond .le 13, 3) := by decide +kernel
theorem dX9_isState_4 : decode cX9_isState 4 = .ok (.iload_n 0, 1) := by decide +kernel
theorem dX9_isState_5 : decode cX9_isState 5 = .ok (.bipush 64, 2) := by decide +kernel
theorem dX9_isState_7 : decode cX9_isState 7 = .ok (.if_icmp .ge 7, 3) := by decide +kernel
theorem dX9_isState_10 : decode cX9_isState 10 = .ok (.iconst 1, 1) := by decide +kernel
theorem dX9_isState_11 : decode cX9_isState 11 = .ok (.goto 4, 3) := by decide +kernel
theorem dX9_isState_14 : decode cX9_isState 14 = .ok (.iconst 0, 1) := by decide +kernel
theorem dX9_isState_15 : decode cX9_isState 15 = .ok (.ireturn, 1) := by decide +kernel
theorem dX9_answering_0 : decode cX9_answering 0 = .ok (.iconst 0, 1) := by decide +kernel
theorem dX9_answering_1 : decode cX9_answering 1 = .ok (.istore_n 3, 1) := by decide +kernel
theorem dX9_answering_2 : decode cX9_answering 2 = .ok (.iconst 0, 1) := by decide +kernel
theorem dX9_answering_3 : decode cX9_answering 3 = .ok (.istore 4, 2) := by decide +kernel
theorem dX9_answering_5 : decode cX9_answering 5 = .ok (.iload 4, 2) := by decide +kernel
theorem dX9_answering_7 : decode cX9_answering 7 = .ok (.aload_n 0, 1) := by decide +kernel
theorem dX9_answering_8 : decode cX9_answering 8 = .ok (.getfield 23, 3) := by decide +kernel
theorem dX9_answering_11 : decode cX9_answering 11 = .ok (.getfield 115, 3) := by decide +kernel
theorem dX9_answering_14 : decode cX9_answering 14 = .ok (.getfield 208, 3) := by decide +kernel
theorem dX9_answering_17 : decode cX9_answering 17 = .ok (.if_icmp .ge 58, 3) := by decide +kernel
theorem dX9_answering_20 : decode cX9_answering 20 = .ok (.aload_n 0, 1) := by decide +kernel
theorem dX9_answering_21 : decode cX9_answering 21 = .ok (.getfield 23, 3) := by decide +kernel
theorem dX9_answering_24 : decode cX9_answering 24 = .ok (.getfield 115, 3) := by decide +kernel
theorem dX9_answering_27 : decode cX9_answering 27 = .ok (.iload 4, 2) := by decide +kernel
theorem dX9_answering_29 : decode cX9_answering 29 = .ok (.iconst 1, 1) := by decide +kernel
theorem dX9_answering_30 : decode cX9_answering 30 = .ok (.invokevirtual 136, 3) := by decide +kernel
theorem dX9_answering_33 : decode cX9_answering 33 = .ok (.istore 5, 2) := by decide +kernel
theorem dX9_answering_35 : decode cX9_answering 35 = .ok (.iload 5, 2) := by decide +kernel
theorem dX9_answering_37 : decode cX9_answering 37 = .ok (.ifCond .le 32, 3) := by decide +kernel
theorem dX9_answering_40 : decode cX9_answering 40 = .ok (.iload_n 2, 1) := by decide +kernel
theorem dX9_answering_41 : decode cX9_answering 41 = .ok (.iload 4, 2) := by decide +kernel
theorem dX9_answering_43 : decode cX9_answering 43 = .ok (.ishr, 1) := by decide +kernel
theorem dX9_answering_44 : decode cX9_answering 44 = .ok (.iconst 1, 1) := by decide +kernel
theorem dX9_answering_45 : decode cX9_answering 45 = .ok (.iand, 1) := by decide +kernel
theorem dX9_answering_46 : decode cX9_answering 46 = .ok (.ifCond .ne 23, 3) := by decide +kernel
theorem dX9_answering_49 : decode cX9_answering 49 = .ok (.aload_n 0, 1) := by decide +kernel
theorem dX9_answering_50 : decode cX9_answering 50 = .ok (.aload_n 1, 1) := by decide +kernel
theorem dX9_answering_51 : decode cX9_answering 51 = .ok (.iload 4, 2) := by decide +kernel
theorem dX9_answering_53 : decode cX9_answering 53 = .ok (.iload 5, 2) := by decide +kernel
theorem dX9_answering_55 : decode cX9_answering 55 = .ok (.iload_n 2, 1) := by decide +kernel
theorem dX9_answering_56 : decode cX9_answering 56 = .ok (.invokevirtual 302, 3) := by decide +kernel
theorem dX9_answering_59 : decode cX9_answering 59 = .ok (.ifCond .eq 10, 3) := by decide +kernel
theorem dX9_answering_62 : decode cX9_answering 62 = .ok (.iload_n 3, 1) := by decide +kernel
theorem dX9_answering_63 : decode cX9_answering 63 = .ok (.iconst 1, 1) := by decide +kernel
theorem dX9_answering_64 : decode cX9_answering 64 = .ok (.iload 4, 2) := by decide +kernel
theorem dX9_answering_66 : decode cX9_answering 66 = .ok (.ishl, 1) := by decide +kernel
theorem dX9_answering_67 : decode cX9_answering 67 = .ok (.ior, 1) := by decide +kernel
theorem dX9_answering_68 : decode cX9_answering 68 = .ok (.istore_n 3, 1) := by decide +kernel
theorem dX9_answering_69 : decode cX9_answering 69 = .ok (.iinc 4 1, 3) := by decide +kernel
theorem dX9_answering_72 : decode cX9_answering 72 = .ok (.goto (-67), 3) := by decide +kernel
theorem dX9_answering_75 : decode cX9_answering 75 = .ok (.iload_n 3, 1) := by decide +kernel
theorem dX9_answering_76 : decode cX9_answering 76 = .ok (.ireturn, 1) := by decide +kernel
theorem dX9_hearsAny_0 : decode cX9_hearsAny 0 = .ok (.iconst 0, 1) := by decide +kernel
theorem dX9_hearsAny_1 : decode cX9_hearsAny 1 = .ok (.istore 5, 2) := by decide +kernel
theorem dX9_hearsAny_3 : decode cX9_hearsAny 3 = .ok (.iload 5, 2) := by decide +kernel
theorem dX9_hearsAny_5 : decode cX9_hearsAny 5 = .ok (.aload_n 0, 1) := by decide +kernel
theorem dX9_hearsAny_6 : decode cX9_hearsAny 6 = .ok (.getfield 23, 3) := by decide +kernel
theorem dX9_hearsAny_9 : decode cX9_hearsAny 9 = .ok (.getfield 115, 3) := by decide +kernel
theorem dX9_hearsAny_12 : decode cX9_hearsAny 12 = .ok (.getfield 208, 3) := by decide +kernel
theorem dX9_hearsAny_15 : decode cX9_hearsAny 15 = .ok (.if_icmp .ge 44, 3) := by decide +kernel
theorem dX9_hearsAny_18 : decode cX9_hearsAny 18 = .ok (.aload_n 1, 1) := by decide +kernel
theorem dX9_hearsAny_19 : decode cX9_hearsAny 19 = .ok (.iload 5, 2) := by decide +kernel
theorem dX9_hearsAny_21 : decode cX9_hearsAny 21 = .ok (.iload_n 2, 1) := by decide +kernel
theorem dX9_hearsAny_22 : decode cX9_hearsAny 22 = .ok (.invokevirtual 165, 3) := by decide +kernel
theorem dX9_hearsAny_25 : decode cX9_hearsAny 25 = .ok (.istore 6, 2) := by decide +kernel
theorem dX9_hearsAny_27 : decode cX9_hearsAny 27 = .ok (.iload 4, 2) := by decide +kernel
theorem dX9_hearsAny_29 : decode cX9_hearsAny 29 = .ok (.iload 5, 2) := by decide +kernel
theorem dX9_hearsAny_31 : decode cX9_hearsAny 31 = .ok (.ishr, 1) := by decide +kernel
theorem dX9_hearsAny_32 : decode cX9_hearsAny 32 = .ok (.iconst 1, 1) := by decide +kernel
theorem dX9_hearsAny_33 : decode cX9_hearsAny 33 = .ok (.iand, 1) := by decide +kernel
theorem dX9_hearsAny_34 : decode cX9_hearsAny 34 = .ok (.iconst 1, 1) := by decide +kernel
theorem dX9_hearsAny_35 : decode cX9_hearsAny 35 = .ok (.if_icmp .ne 18, 3) := by decide +kernel
theorem dX9_hearsAny_38 : decode cX9_hearsAny 38 = .ok (.iload 6, 2) := by decide +kernel
theorem dX9_hearsAny_40 : decode cX9_hearsAny 40 = .ok (.bipush (-2), 2) := by decide +kernel
theorem dX9_hearsAny_42 : decode cX9_hearsAny 42 = .ok (.if_icmp .eq 11, 3) := by decide +kernel
theorem dX9_hearsAny_45 : decode cX9_hearsAny 45 = .ok (.iload 6, 2) := by decide +kernel
theorem dX9_hearsAny_47 : decode cX9_hearsAny 47 = .ok (.iload_n 3, 1) := by decide +kernel
theorem dX9_hearsAny_48 : decode cX9_hearsAny 48 = .ok (.if_icmp .gt 5, 3) := by decide +kernel
theorem dX9_hearsAny_51 : decode cX9_hearsAny 51 = .ok (.iconst 1, 1) := by decide +kernel
theorem dX9_hearsAny_52 : decode cX9_hearsAny 52 = .ok (.ireturn, 1) := by decide +kernel
theorem dX9_hearsAny_53 : decode cX9_hearsAny 53 = .ok (.iinc 5 1, 3) := by decide +kernel
theorem dX9_hearsAny_56 : decode cX9_hearsAny 56 = .ok (.goto (-53), 3) := by decide +kernel
theorem dX9_hearsAny_59 : decode cX9_hearsAny 59 = .ok (.iconst 0, 1) := by decide +kernel
theorem dX9_hearsAny_60 : decode cX9_hearsAny 60 = .ok (.ireturn, 1) := by decide +kernel
theorem dX9_note_0 : decode cX9_note 0 = .ok (.aload_n 0, 1) := by decide +kernel
theorem dX9_note_1 : decode cX9_note 1 = .ok (.getfield 23, 3) := by decide +kernel
theorem dX9_note_4 : decode cX9_note 4 = .ok (.getfield 115, 3) := by decide +kernel
theorem dX9_note_7 : decode cX9_note 7 = .ok (.iload_n 1, 1) := by decide +kernel
theorem dX9_note_8 : decode cX9_note 8 = .ok (.invokevirtual 125, 3) := by decide +kernel
theorem dX9_note_11 : decode cX9_note 11 = .ok (.ifCond .eq 10, 3) := by decide +kernel
theorem dX9_note_14 : decode cX9_note 14 = .ok (.iload_n 2, 1) := by decide +kernel
theorem dX9_note_15 : decode cX9_note 15 = .ok (.invokestatic 186, 3) := by decide +kernel
theorem dX9_note_18 : decode cX9_note 18 = .ok (.ifCond .ne 5, 3) := by decide +kernel
theorem dX9_note_21 : decode cX9_note 21 = .ok (.iconst (-1), 1) := by decide +kernel
theorem dX9_note_22 : decode cX9_note 22 = .ok (.ireturn, 1) := by decide +kernel
theorem dX9_note_23 : decode cX9_note 23 = .ok (.aload_n 0, 1) := by decide +kernel
theorem dX9_note_24 : decode cX9_note 24 = .ok (.getfield 63, 3) := by decide +kernel
theorem dX9_note_27 : decode cX9_note 27 = .ok (.getfield 306, 3) := by decide +kernel
theorem dX9_note_30 : decode cX9_note 30 = .ok (.iload_n 3, 1) := by decide +kernel
theorem dX9_note_31 : decode cX9_note 31 = .ok (.ifCond .eq 7, 3) := by decide +kernel
theorem dX9_note_34 : decode cX9_note 34 = .ok (.iconst 1, 1) := by decide +kernel
theorem dX9_note_35 : decode cX9_note 35 = .ok (.goto 4, 3) := by decide +kernel
theorem dX9_note_38 : decode cX9_note 38 = .ok (.iconst 0, 1) := by decide +kernel
theorem dX9_note_39 : decode cX9_note 39 = .ok (.iload_n 1, 1) := by decide +kernel
theorem dX9_note_40 : decode cX9_note 40 = .ok (.iload_n 2, 1) := by decide +kernel
theorem dX9_note_41 : decode cX9_note 41 = .ok (.iconst 0, 1) := by decide +kernel
theorem dX9_note_42 : decode cX9_note 42 = .ok (.iconst 0, 1) := by decide +kernel
theorem dX9_note_43 : decode cX9_note 43 = .ok (.invokevirtual 225, 3) := by decide +kernel
theorem dX9_note_46 : decode cX9_note 46 = .ok (.ireturn, 1) := by decide +kernel
theorem dX9_strike_0 : decode cX9_strike 0 = .ok (.aload_n 0, 1) := by decide +kernel
theorem dX9_strike_1 : decode cX9_strike 1 = .ok (.getfield 63, 3) := by decide +kernel
theorem dX9_strike_4 : decode cX9_strike 4 = .ok (.getfield 306, 3) := by decide +kernel
theorem dX9_strike_7 : decode cX9_strike 7 = .ok (.iload_n 1, 1) := by decide +kernel
theorem dX9_strike_8 : decode cX9_strike 8 = .ok (.invokevirtual 125, 3) := by decide +kernel
theorem dX9_strike_11 : decode cX9_strike 11 = .ok (.ifCond .ne 5, 3) := by decide +kernel
theorem dX9_strike_14 : decode cX9_strike 14 = .ok (.iconst (-1), 1) := by decide +kernel
theorem dX9_strike_15 : decode cX9_strike 15 = .ok (.ireturn, 1) := by decide +kernel
theorem dX9_strike_16 : decode cX9_strike 16 = .ok (.aload_n 0, 1) := by decide +kernel
theorem dX9_strike_17 : decode cX9_strike 17 = .ok (.getfield 63, 3) := by decide +kernel
theorem dX9_strike_20 : decode cX9_strike 20 = .ok (.getfield 306, 3) := by decide +kernel
theorem dX9_strike_23 : decode cX9_strike 23 = .ok (.iconst 2, 1) := by decide +kernel
theorem dX9_strike_24 : decode cX9_strike 24 = .ok (.iload_n 1, 1) := by decide +kernel
theorem dX9_strike_25 : decode cX9_strike 25 = .ok (.iconst 0, 1) := by decide +kernel
theorem dX9_strike_26 : decode cX9_strike 26 = .ok (.iconst 0, 1) := by decide +kernel
theorem dX9_strike_27 : decode cX9_strike 27 = .ok (.iconst 0, 1) := by decide +kernel
theorem dX9_strike_28 : decode cX9_strike 28 = .ok (.invokevirtual 225, 3) := by decide +kernel
theorem dX9_strike_31 : decode cX9_strike 31 = .ok (.ireturn, 1) := by decide +kernel
theorem dX9_known_0 : decode cX9_known 0 = .ok (.iload_n 1, 1) := by decide +kernel
theorem dX9_known_1 : decode cX9_known 1 = .ok (.iconst (-1), 1) := by decide +kernel
theorem dX9_known_2 : decode cX9_known 2 = .ok (.if_icmp .lt 17, 3) := by decide +kernel
theorem dX9_known_5 : decode cX9_known 5 = .ok (.iload_n 1, 1) := by decide +kernel
theorem dX9_known_6 : decode cX9_known 6 = .ok (.aload_n 0, 1) := by decide +kernel
theorem dX9_known_7 : decode cX9_known 7 = .ok (.getfield 63, 3) := by decide +kernel
theorem dX9_known_10 : decode cX9_known 10 = .ok (.getfield 306, 3) := by decide +kernel
theorem dX9_known_13 : decode cX9_known 13 = .ok (.getfield 208, 3) := by decide +kernel
theorem dX9_known_16 : decode cX9_known 16 = .ok (.if_icmp .le 5, 3) := by decide +kernel
theorem dX9_known_19 : decode cX9_known 19 = .ok (.iconst 0, 1) := by decide +kernel
theorem dX9_known_20 : decode cX9_known 20 = .ok (.ireturn, 1) := by decide +kernel
theorem dX9_known_21 : decode cX9_known 21 = .ok (.aload_n 0, 1) := by decide +kernel
theorem dX9_known_22 : decode cX9_known 22 = .ok (.getfield 63, 3) := by decide +kernel
theorem dX9_known_25 : decode cX9_known 25 = .ok (.iload_n 1, 1) := by decide +kernel
theorem dX9_known_26 : decode cX9_known 26 = .ok (.putfield 309, 3) := by decide +kernel
theorem dX9_known_29 : decode cX9_known 29 = .ok (.iconst 1, 1) := by decide +kernel
theorem dX9_known_30 : decode cX9_known 30 = .ok (.ireturn, 1) := by decide +kernel
theorem dX9_thieves_0 : decode cX9_thieves 0 = .ok (.aload_n 0, 1) := by decide +kernel
theorem dX9_thieves_1 : decode cX9_thieves 1 = .ok (.getfield 63, 3) := by decide +kernel
theorem dX9_thieves_4 : decode cX9_thieves 4 = .ok (.aload_n 0, 1) := by decide +kernel
theorem dX9_thieves_5 : decode cX9_thieves 5 = .ok (.getfield 23, 3) := by decide +kernel
theorem dX9_thieves_8 : decode cX9_thieves 8 = .ok (.aload_n 0, 1) := by decide +kernel
theorem dX9_thieves_9 : decode cX9_thieves 9 = .ok (.invokevirtual 139, 3) := by decide +kernel
theorem dX9_thieves_12 : decode cX9_thieves 12 = .ok (.ldc_w 312, 3) := by decide +kernel
theorem dX9_thieves_15 : decode cX9_thieves 15 = .ok (.invokevirtual 313, 3) := by decide +kernel
theorem dX9_thieves_18 : decode cX9_thieves 18 = .ok (.ireturn, 1) := by decide +kernel
theorem dX9_thief_0 : decode cX9_thief 0 = .ok (.iload_n 1, 1) := by decide +kernel
theorem dX9_thief_1 : decode cX9_thief 1 = .ok (.ifCond .lt 12, 3) := by decide +kernel
theorem dX9_thief_4 : decode cX9_thief 4 = .ok (.iload_n 2, 1) := by decide +kernel
theorem dX9_thief_5 : decode cX9_thief 5 = .ok (.ifCond .lt 8, 3) := by decide +kernel
theorem dX9_thief_8 : decode cX9_thief 8 = .ok (.iload_n 2, 1) := by decide +kernel
theorem dX9_thief_9 : decode cX9_thief 9 = .ok (.iconst 2, 1) := by decide +kernel
theorem dX9_thief_10 : decode cX9_thief 10 = .ok (.if_icmp .le 5, 3) := by decide +kernel
theorem dX9_thief_13 : decode cX9_thief 13 = .ok (.iconst (-1), 1) := by decide +kernel
theorem dX9_thief_14 : decode cX9_thief 14 = .ok (.ireturn, 1) := by decide +kernel
theorem dX9_thief_15 : decode cX9_thief 15 = .ok (.aload_n 0, 1) := by decide +kernel
theorem dX9_thief_16 : decode cX9_thief 16 = .ok (.getfield 63, 3) := by decide +kernel
theorem dX9_thief_19 : decode cX9_thief 19 = .ok (.aload_n 0, 1) := by decide +kernel
theorem dX9_thief_20 : decode cX9_thief 20 = .ok (.getfield 23, 3) := by decide +kernel
theorem dX9_thief_23 : decode cX9_thief 23 = .ok (.aload_n 0, 1) := by decide +kernel
theorem dX9_thief_24 : decode cX9_thief 24 = .ok (.invokevirtual 139, 3) := by decide +kernel
theorem dX9_thief_27 : decode cX9_thief 27 = .ok (.iload_n 1, 1) := by decide +kernel
theorem dX9_thief_28 : decode cX9_thief 28 = .ok (.invokevirtual 313, 3) := by decide +kernel
theorem dX9_thief_31 : decode cX9_thief 31 = .ok (.iload_n 1, 1) := by decide +kernel
theorem dX9_thief_32 : decode cX9_thief 32 = .ok (.if_icmp .gt 6, 3) := by decide +kernel
theorem dX9_thief_35 : decode cX9_thief 35 = .ok (.bipush (-2), 2) := by decide +kernel
theorem dX9_thief_37 : decode cX9_thief 37 = .ok (.ireturn, 1) := by decide +kernel
theorem dX9_thief_38 : decode cX9_thief 38 = .ok (.iload_n 2, 1) := by decide +kernel
theorem dX9_thief_39 : decode cX9_thief 39 = .ok (.ifCond .ne 11, 3) := by decide +kernel
theorem dX9_thief_42 : decode cX9_thief 42 = .ok (.aload_n 0, 1) := by decide +kernel
theorem dX9_thief_43 : decode cX9_thief 43 = .ok (.getfield 63, 3) := by decide +kernel
theorem dX9_thief_46 : decode cX9_thief 46 = .ok (.getfield 316, 3) := by decide +kernel
theorem dX9_thief_49 : decode cX9_thief 49 = .ok (.ireturn, 1) := by decide +kernel
theorem dX9_thief_50 : decode cX9_thief 50 = .ok (.iload_n 2, 1) := by decide +kernel
theorem dX9_thief_51 : decode cX9_thief 51 = .ok (.iconst 1, 1) := by decide +kernel
theorem dX9_thief_52 : decode cX9_thief 52 = .ok (.if_icmp .ne 13, 3) := by decide +kernel
theorem dX9_thief_55 : decode cX9_thief 55 = .ok (.aload_n 0, 1) := by decide +kernel
theorem dX9_thief_56 : decode cX9_thief 56 = .ok (.getfield 63, 3) := by decide +kernel
theorem dX9_thief_59 : decode cX9_thief 59 = .ok (.getfield 319, 3) := by decide +kernel
theorem dX9_thief_62 : decode cX9_thief 62 = .ok (.goto 10, 3) := by decide +kernel
theorem dX9_thief_65 : decode cX9_thief 65 = .ok (.aload_n 0, 1) := by decide +kernel
theorem dX9_thief_66 : decode cX9_thief 66 = .ok (.getfield 63, 3) := by decide +kernel
theorem dX9_thief_69 : decode cX9_thief 69 = .ok (.getfield 322, 3) := by decide +kernel
theorem dX9_thief_72 : decode cX9_thief 72 = .ok (.ireturn, 1) := by decide +kernel
theorem dX9_left_0 : decode cX9_left 0 = .ok (.aload_n 0, 1) := by decide +kernel
theorem dX9_left_1 : decode cX9_left 1 = .ok (.getfield 23, 3) := by decide +kernel
theorem dX9_left_4 : decode cX9_left 4 = .ok (.getfield 122, 3) := by decide +kernel
theorem dX9_left_7 : decode cX9_left 7 = .ok (.iload_n 1, 1) := by decide +kernel
theorem dX9_left_8 : decode cX9_left 8 = .ok (.invokevirtual 125, 3) := by decide +kernel
theorem dX9_left_11 : decode cX9_left 11 = .ok (.ifCond .eq 12, 3) := by decide +kernel
theorem dX9_left_14 : decode cX9_left 14 = .ok (.iload_n 2, 1) := by decide +kernel
theorem dX9_left_15 : decode cX9_left 15 = .ok (.ifCond .lt 8, 3) := by decide +kernel
theorem dX9_left_18 : decode cX9_left 18 = .ok (.iload_n 2, 1) := by decide +kernel
theorem dX9_left_19 : decode cX9_left 19 = .ok (.iconst 2, 1) := by decide +kernel
theorem dX9_left_20 : decode cX9_left 20 = .ok (.if_icmp .le 5, 3) := by decide +kernel
theorem dX9_left_23 : decode cX9_left 23 = .ok (.iconst (-1), 1) := by decide +kernel
theorem dX9_left_24 : decode cX9_left 24 = .ok (.ireturn, 1) := by decide +kernel
theorem dX9_left_25 : decode cX9_left 25 = .ok (.aload_n 0, 1) := by decide +kernel
theorem dX9_left_26 : decode cX9_left 26 = .ok (.getfield 33, 3) := by decide +kernel
theorem dX9_left_29 : decode cX9_left 29 = .ok (.aload_n 0, 1) := by decide +kernel
theorem dX9_left_30 : decode cX9_left 30 = .ok (.getfield 23, 3) := by decide +kernel
theorem dX9_left_33 : decode cX9_left 33 = .ok (.invokevirtual 263, 3) := by decide +kernel
theorem dX9_left_36 : decode cX9_left 36 = .ok (.aload_n 0, 1) := by decide +kernel
theorem dX9_left_37 : decode cX9_left 37 = .ok (.getfield 33, 3) := by decide +kernel
theorem dX9_left_40 : decode cX9_left 40 = .ok (.getfield 159, 3) := by decide +kernel
theorem dX9_left_43 : decode cX9_left 43 = .ok (.invokevirtual 102, 3) := by decide +kernel
theorem dX9_left_46 : decode cX9_left 46 = .ok (.iconst 0, 1) := by decide +kernel
theorem dX9_left_47 : decode cX9_left 47 = .ok (.istore_n 3, 1) := by decide +kernel
theorem dX9_left_48 : decode cX9_left 48 = .ok (.iload_n 3, 1) := by decide +kernel
theorem dX9_left_49 : decode cX9_left 49 = .ok (.aload_n 0, 1) := by decide +kernel
theorem dX9_left_50 : decode cX9_left 50 = .ok (.getfield 23, 3) := by decide +kernel
theorem dX9_left_53 : decode cX9_left 53 = .ok (.getfield 159, 3) := by decide +kernel
theorem dX9_left_56 : decode cX9_left 56 = .ok (.getfield 208, 3) := by decide +kernel
theorem dX9_left_59 : decode cX9_left 59 = .ok (.if_icmp .ge 16, 3) := by decide +kernel
theorem dX9_left_62 : decode cX9_left 62 = .ok (.aload_n 0, 1) := by decide +kernel
theorem dX9_left_63 : decode cX9_left 63 = .ok (.iload_n 3, 1) := by decide +kernel
theorem dX9_left_64 : decode cX9_left 64 = .ok (.iload_n 1, 1) := by decide +kernel
theorem dX9_left_65 : decode cX9_left 65 = .ok (.iload_n 2, 1) := by decide +kernel
theorem dX9_left_66 : decode cX9_left 66 = .ok (.invokevirtual 325, 3) := by decide +kernel
theorem dX9_left_69 : decode cX9_left 69 = .ok (.iinc 3 1, 3) := by decide +kernel
theorem dX9_left_72 : decode cX9_left 72 = .ok (.goto (-24), 3) := by decide +kernel
theorem dX9_left_75 : decode cX9_left 75 = .ok (.aload_n 0, 1) := by decide +kernel
theorem dX9_left_76 : decode cX9_left 76 = .ok (.iconst (-1), 1) := by decide +kernel
theorem dX9_left_77 : decode cX9_left 77 = .ok (.invokevirtual 328, 3) := by decide +kernel
theorem dX9_left_80 : decode cX9_left 80 = .ok (.aload_n 0, 1) := by decide +kernel
theorem dX9_left_81 : decode cX9_left 81 = .ok (.getfield 43, 3) := by decide +kernel
theorem dX9_left_84 : decode cX9_left 84 = .ok (.aload_n 0, 1) := by decide +kernel
theorem dX9_left_85 : decode cX9_left 85 = .ok (.getfield 33, 3) := by decide +kernel
theorem dX9_left_88 : decode cX9_left 88 = .ok (.invokevirtual 331, 3) := by decide +kernel
theorem dX9_left_91 : decode cX9_left 91 = .ok (.ireturn, 1) := by decide +kernel
theorem dX9_inherit_0 : decode cX9_inherit 0 = .ok (.aload_n 0, 1) := by decide +kernel
theorem dX9_inherit_1 : decode cX9_inherit 1 = .ok (.getfield 23, 3) := by decide +kernel
theorem dX9_inherit_4 : decode cX9_inherit 4 = .ok (.getfield 159, 3) := by decide +kernel
theorem dX9_inherit_7 : decode cX9_inherit 7 = .ok (.iload_n 1, 1) := by decide +kernel
theorem dX9_inherit_8 : decode cX9_inherit 8 = .ok (.iconst 0, 1) := by decide +kernel
theorem dX9_inherit_9 : decode cX9_inherit 9 = .ok (.invokevirtual 136, 3) := by decide +kernel
theorem dX9_inherit_12 : decode cX9_inherit 12 = .ok (.istore 4, 2) := by decide +kernel
theorem dX9_inherit_14 : decode cX9_inherit 14 = .ok (.aload_n 0, 1) := by decide +kernel
theorem dX9_inherit_15 : decode cX9_inherit 15 = .ok (.getfield 23, 3) := by decide +kernel
theorem dX9_inherit_18 : decode cX9_inherit 18 = .ok (.getfield 159, 3) := by decide +kernel
theorem dX9_inherit_21 : decode cX9_inherit 21 = .ok (.iload_n 1, 1) := by decide +kernel
theorem dX9_inherit_22 : decode cX9_inherit 22 = .ok (.iconst 1, 1) := by decide +kernel
theorem dX9_inherit_23 : decode cX9_inherit 23 = .ok (.invokevirtual 136, 3) := by decide +kernel
theorem dX9_inherit_26 : decode cX9_inherit 26 = .ok (.istore 5, 2) := by decide +kernel
theorem dX9_inherit_28 : decode cX9_inherit 28 = .ok (.aload_n 0, 1) := by decide +kernel
theorem dX9_inherit_29 : decode cX9_inherit 29 = .ok (.getfield 23, 3) := by decide +kernel
theorem dX9_inherit_32 : decode cX9_inherit 32 = .ok (.getfield 159, 3) := by decide +kernel
theorem dX9_inherit_35 : decode cX9_inherit 35 = .ok (.iload_n 1, 1) := by decide +kernel
theorem dX9_inherit_36 : decode cX9_inherit 36 = .ok (.iconst 2, 1) := by decide +kernel
theorem dX9_inherit_37 : decode cX9_inherit 37 = .ok (.invokevirtual 136, 3) := by decide +kernel
theorem dX9_inherit_40 : decode cX9_inherit 40 = .ok (.istore 6, 2) := by decide +kernel
theorem dX9_inherit_42 : decode cX9_inherit 42 = .ok (.aload_n 0, 1) := by decide +kernel
theorem dX9_inherit_43 : decode cX9_inherit 43 = .ok (.getfield 23, 3) := by decide +kernel
theorem dX9_inherit_46 : decode cX9_inherit 46 = .ok (.getfield 159, 3) := by decide +kernel
theorem dX9_inherit_49 : decode cX9_inherit 49 = .ok (.iload_n 1, 1) := by decide +kernel
theorem dX9_inherit_50 : decode cX9_inherit 50 = .ok (.iconst 3, 1) := by decide +kernel
theorem dX9_inherit_51 : decode cX9_inherit 51 = .ok (.invokevirtual 136, 3) := by decide +kernel
theorem dX9_inherit_54 : decode cX9_inherit 54 = .ok (.istore 7, 2) := by decide +kernel
theorem dX9_inherit_56 : decode cX9_inherit 56 = .ok (.aload_n 0, 1) := by decide +kernel
theorem dX9_inherit_57 : decode cX9_inherit 57 = .ok (.getfield 23, 3) := by decide +kernel
theorem dX9_inherit_60 : decode cX9_inherit 60 = .ok (.getfield 122, 3) := by decide +kernel
theorem dX9_inherit_63 : decode cX9_inherit 63 = .ok (.iload_n 2, 1) := by decide +kernel
theorem dX9_inherit_64 : decode cX9_inherit 64 = .ok (.iconst 2, 1) := by decide +kernel
theorem dX9_inherit_65 : decode cX9_inherit 65 = .ok (.invokevirtual 136, 3) := by decide +kernel
theorem dX9_inherit_68 : decode cX9_inherit 68 = .ok (.istore 8, 2) := by decide +kernel
theorem dX9_inherit_70 : decode cX9_inherit 70 = .ok (.iload 4, 2) := by decide +kernel
theorem dX9_inherit_72 : decode cX9_inherit 72 = .ok (.iload_n 2, 1) := by decide +kernel
theorem dX9_inherit_73 : decode cX9_inherit 73 = .ok (.if_icmp .eq 26, 3) := by decide +kernel
theorem dX9_inherit_76 : decode cX9_inherit 76 = .ok (.aload_n 0, 1) := by decide +kernel
theorem dX9_inherit_77 : decode cX9_inherit 77 = .ok (.getfield 33, 3) := by decide +kernel
theorem dX9_inherit_80 : decode cX9_inherit 80 = .ok (.getfield 159, 3) := by decide +kernel
theorem dX9_inherit_83 : decode cX9_inherit 83 = .ok (.iload 4, 2) := by decide +kernel
theorem dX9_inherit_85 : decode cX9_inherit 85 = .ok (.iload 5, 2) := by decide +kernel
theorem dX9_inherit_87 : decode cX9_inherit 87 = .ok (.iload 6, 2) := by decide +kernel
theorem dX9_inherit_89 : decode cX9_inherit 89 = .ok (.iload 7, 2) := by decide +kernel
theorem dX9_inherit_91 : decode cX9_inherit 91 = .ok (.iconst 0, 1) := by decide +kernel
theorem dX9_inherit_92 : decode cX9_inherit 92 = .ok (.invokevirtual 225, 3) := by decide +kernel
theorem dX9_inherit_95 : decode cX9_inherit 95 = .ok (.pop, 1) := by decide +kernel
theorem dX9_inherit_96 : decode cX9_inherit 96 = .ok (.goto 142, 3) := by decide +kernel
theorem dX9_inherit_99 : decode cX9_inherit 99 = .ok (.iload_n 3, 1) := by decide +kernel
theorem dX9_inherit_100 : decode cX9_inherit 100 = .ok (.ifCond .ne 32, 3) := by decide +kernel
theorem dX9_inherit_103 : decode cX9_inherit 103 = .ok (.iload 8, 2) := by decide +kernel
theorem dX9_inherit_105 : decode cX9_inherit 105 = .ok (.iconst (-1), 1) := by decide +kernel
theorem dX9_inherit_106 : decode cX9_inherit 106 = .ok (.if_icmp .eq 26, 3) := by decide +kernel
theorem dX9_inherit_109 : decode cX9_inherit 109 = .ok (.aload_n 0, 1) := by decide +kernel
theorem dX9_inherit_110 : decode cX9_inherit 110 = .ok (.getfield 33, 3) := by decide +kernel
theorem dX9_inherit_113 : decode cX9_inherit 113 = .ok (.getfield 159, 3) := by decide +kernel
theorem dX9_inherit_116 : decode cX9_inherit 116 = .ok (.iload 8, 2) := by decide +kernel
theorem dX9_inherit_118 : decode cX9_inherit 118 = .ok (.iload 5, 2) := by decide +kernel
theorem dX9_inherit_120 : decode cX9_inherit 120 = .ok (.iload 6, 2) := by decide +kernel
theorem dX9_inherit_122 : decode cX9_inherit 122 = .ok (.iload 7, 2) := by decide +kernel
theorem dX9_inherit_124 : decode cX9_inherit 124 = .ok (.iconst 0, 1) := by decide +kernel
theorem dX9_inherit_125 : decode cX9_inherit 125 = .ok (.invokevirtual 225, 3) := by decide +kernel
theorem dX9_inherit_128 : decode cX9_inherit 128 = .ok (.pop, 1) := by decide +kernel
theorem dX9_inherit_129 : decode cX9_inherit 129 = .ok (.goto 109, 3) := by decide +kernel
theorem dX9_inherit_132 : decode cX9_inherit 132 = .ok (.iload_n 3, 1) := by decide +kernel
theorem dX9_inherit_133 : decode cX9_inherit 133 = .ok (.iconst 1, 1) := by decide +kernel
theorem dX9_inherit_134 : decode cX9_inherit 134 = .ok (.if_icmp .ne 104, 3) := by decide +kernel
theorem dX9_inherit_137 : decode cX9_inherit 137 = .ok (.iload 8, 2) := by decide +kernel
theorem dX9_inherit_139 : decode cX9_inherit 139 = .ok (.iconst (-1), 1) := by decide +kernel
theorem dX9_inherit_140 : decode cX9_inherit 140 = .ok (.if_icmp .eq 98, 3) := by decide +kernel
theorem dX9_inherit_143 : decode cX9_inherit 143 = .ok (.aload_n 0, 1) := by decide +kernel
theorem dX9_inherit_144 : decode cX9_inherit 144 = .ok (.getfield 23, 3) := by decide +kernel
theorem dX9_inherit_147 : decode cX9_inherit 147 = .ok (.getfield 122, 3) := by decide +kernel
theorem dX9_inherit_150 : decode cX9_inherit 150 = .ok (.iload 8, 2) := by decide +kernel
theorem dX9_inherit_152 : decode cX9_inherit 152 = .ok (.iconst 2, 1) := by decide +kernel
theorem dX9_inherit_153 : decode cX9_inherit 153 = .ok (.invokevirtual 136, 3) := by decide +kernel
theorem dX9_inherit_156 : decode cX9_inherit 156 = .ok (.istore 9, 2) := by decide +kernel
theorem dX9_inherit_158 : decode cX9_inherit 158 = .ok (.iload 6, 2) := by decide +kernel
theorem dX9_inherit_160 : decode cX9_inherit 160 = .ok (.iload 7, 2) := by decide +kernel
theorem dX9_inherit_162 : decode cX9_inherit 162 = .ok (.iload 6, 2) := by decide +kernel
theorem dX9_inherit_164 : decode cX9_inherit 164 = .ok (.isub, 1) := by decide +kernel
theorem dX9_inherit_165 : decode cX9_inherit 165 = .ok (.iconst 1, 1) := by decide +kernel
theorem dX9_inherit_166 : decode cX9_inherit 166 = .ok (.iadd, 1) := by decide +kernel
theorem dX9_inherit_167 : decode cX9_inherit 167 = .ok (.iconst 2, 1) := by decide +kernel
theorem dX9_inherit_168 : decode cX9_inherit 168 = .ok (.idiv, 1) := by decide +kernel
theorem dX9_inherit_169 : decode cX9_inherit 169 = .ok (.iadd, 1) := by decide +kernel
theorem dX9_inherit_170 : decode cX9_inherit 170 = .ok (.istore 10, 2) := by decide +kernel
theorem dX9_inherit_172 : decode cX9_inherit 172 = .ok (.iload 10, 2) := by decide +kernel
theorem dX9_inherit_174 : decode cX9_inherit 174 = .ok (.iload 6, 2) := by decide +kernel
theorem dX9_inherit_176 : decode cX9_inherit 176 = .ok (.if_icmp .le 25, 3) := by decide +kernel
theorem dX9_inherit_179 : decode cX9_inherit 179 = .ok (.aload_n 0, 1) := by decide +kernel
theorem dX9_inherit_180 : decode cX9_inherit 180 = .ok (.getfield 33, 3) := by decide +kernel
theorem dX9_inherit_183 : decode cX9_inherit 183 = .ok (.getfield 159, 3) := by decide +kernel
theorem dX9_inherit_186 : decode cX9_inherit 186 = .ok (.iload 8, 2) := by decide +kernel
theorem dX9_inherit_188 : decode cX9_inherit 188 = .ok (.iload 5, 2) := by decide +kernel
theorem dX9_inherit_190 : decode cX9_inherit 190 = .ok (.iload 6, 2) := by decide +kernel
theorem dX9_inherit_192 : decode cX9_inherit 192 = .ok (.iload 10, 2) := by decide +kernel
theorem dX9_inherit_194 : decode cX9_inherit 194 = .ok (.iconst 1, 1) := by decide +kernel
theorem dX9_inherit_195 : decode cX9_inherit 195 = .ok (.isub, 1) := by decide +kernel
theorem dX9_inherit_196 : decode cX9_inherit 196 = .ok (.iconst 0, 1) := by decide +kernel
theorem dX9_inherit_197 : decode cX9_inherit 197 = .ok (.invokevirtual 225, 3) := by decide +kernel
theorem dX9_inherit_200 : decode cX9_inherit 200 = .ok (.pop, 1) := by decide +kernel
theorem dX9_inherit_201 : decode cX9_inherit 201 = .ok (.aload_n 0, 1) := by decide +kernel
theorem dX9_inherit_202 : decode cX9_inherit 202 = .ok (.getfield 33, 3) := by decide +kernel
theorem dX9_inherit_205 : decode cX9_inherit 205 = .ok (.getfield 159, 3) := by decide +kernel
theorem dX9_inherit_208 : decode cX9_inherit 208 = .ok (.iload 9, 2) := by decide +kernel
theorem dX9_inherit_210 : decode cX9_inherit 210 = .ok (.iconst (-1), 1) := by decide +kernel
theorem dX9_inherit_211 : decode cX9_inherit 211 = .ok (.if_icmp .eq 9, 3) := by decide +kernel
theorem dX9_inherit_214 : decode cX9_inherit 214 = .ok (.iload 9, 2) := by decide +kernel
theorem dX9_inherit_216 : decode cX9_inherit 216 = .ok (.iload_n 2, 1) := by decide +kernel
theorem dX9_inherit_217 : decode cX9_inherit 217 = .ok (.if_icmp .ne 8, 3) := by decide +kernel
theorem dX9_inherit_220 : decode cX9_inherit 220 = .ok (.iload 8, 2) := by decide +kernel
theorem dX9_inherit_222 : decode cX9_inherit 222 = .ok (.goto 5, 3) := by decide +kernel
theorem dX9_inherit_225 : decode cX9_inherit 225 = .ok (.iload 9, 2) := by decide +kernel
theorem dX9_inherit_227 : decode cX9_inherit 227 = .ok (.iload 5, 2) := by decide +kernel
theorem dX9_inherit_229 : decode cX9_inherit 229 = .ok (.iload 10, 2) := by decide +kernel
theorem dX9_inherit_231 : decode cX9_inherit 231 = .ok (.iload 7, 2) := by decide +kernel
theorem dX9_inherit_233 : decode cX9_inherit 233 = .ok (.iconst 0, 1) := by decide +kernel
theorem dX9_inherit_234 : decode cX9_inherit 234 = .ok (.invokevirtual 225, 3) := by decide +kernel
theorem dX9_inherit_237 : decode cX9_inherit 237 = .ok (.pop, 1) := by decide +kernel
theorem dX9_inherit_238 : decode cX9_inherit 238 = .ok (.return_, 1) := by decide +kernel
theorem dX9_rests_0 : decode cX9_rests 0 = .ok (.iload_n 1, 1) := by decide +kernel
theorem dX9_rests_1 : decode cX9_rests 1 = .ok (.invokestatic 335, 3) := by decide +kernel
theorem dX9_rests_4 : decode cX9_rests 4 = .ok (.ifCond .eq 17, 3) := by decide +kernel
theorem dX9_rests_7 : decode cX9_rests 7 = .ok (.iload_n 2, 1) := by decide +kernel
theorem dX9_rests_8 : decode cX9_rests 8 = .ok (.invokestatic 335, 3) := by decide +kernel
theorem dX9_rests_11 : decode cX9_rests 11 = .ok (.ifCond .eq 10, 3) := by decide +kernel
theorem dX9_rests_14 : decode cX9_rests 14 = .ok (.iload_n 3, 1) := by decide +kernel
theorem dX9_rests_15 : decode cX9_rests 15 = .ok (.invokestatic 335, 3) := by decide +kernel
theorem dX9_rests_18 : decode cX9_rests 18 = .ok (.ifCond .ne 5, 3) := by decide +kernel
theorem dX9_rests_21 : decode cX9_rests 21 = .ok (.iconst (-1), 1) := by decide +kernel
theorem dX9_rests_22 : decode cX9_rests 22 = .ok (.ireturn, 1) := by decide +kernel
theorem dX9_rests_23 : decode cX9_rests 23 = .ok (.iconst 0, 1) := by decide +kernel
theorem dX9_rests_24 : decode cX9_rests 24 = .ok (.istore 4, 2) := by decide +kernel
theorem dX9_rests_26 : decode cX9_rests 26 = .ok (.iconst 0, 1) := by decide +kernel
theorem dX9_rests_27 : decode cX9_rests 27 = .ok (.istore 5, 2) := by decide +kernel
theorem dX9_rests_29 : decode cX9_rests 29 = .ok (.iload 5, 2) := by decide +kernel
theorem dX9_rests_31 : decode cX9_rests 31 = .ok (.bipush 100, 2) := by decide +kernel
theorem dX9_rests_33 : decode cX9_rests 33 = .ok (.if_icmp .ge 23, 3) := by decide +kernel
theorem dX9_rests_36 : decode cX9_rests 36 = .ok (.iload_n 1, 1) := by decide +kernel
theorem dX9_rests_37 : decode cX9_rests 37 = .ok (.iload_n 2, 1) := by decide +kernel
theorem dX9_rests_38 : decode cX9_rests 38 = .ok (.iload_n 3, 1) := by decide +kernel
theorem dX9_rests_39 : decode cX9_rests 39 = .ok (.iload 5, 2) := by decide +kernel
theorem dX9_rests_41 : decode cX9_rests 41 = .ok (.invokestatic 338, 3) := by decide +kernel
theorem dX9_rests_44 : decode cX9_rests 44 = .ok (.ifCond .eq 6, 3) := by decide +kernel
theorem dX9_rests_47 : decode cX9_rests 47 = .ok (.iinc 4 1, 3) := by decide +kernel
theorem dX9_rests_50 : decode cX9_rests 50 = .ok (.iinc 5 1, 3) := by decide +kernel
theorem dX9_rests_53 : decode cX9_rests 53 = .ok (.goto (-24), 3) := by decide +kernel
theorem dX9_rests_56 : decode cX9_rests 56 = .ok (.iload 4, 2) := by decide +kernel
theorem dX9_rests_58 : decode cX9_rests 58 = .ok (.ireturn, 1) := by decide +kernel
theorem dX9_rest_0 : decode cX9_rest 0 = .ok (.iload_n 1, 1) := by decide +kernel
theorem dX9_rest_1 : decode cX9_rest 1 = .ok (.invokestatic 335, 3) := by decide +kernel
theorem dX9_rest_4 : decode cX9_rest 4 = .ok (.ifCond .eq 22, 3) := by decide +kernel
theorem dX9_rest_7 : decode cX9_rest 7 = .ok (.iload_n 2, 1) := by decide +kernel
theorem dX9_rest_8 : decode cX9_rest 8 = .ok (.invokestatic 335, 3) := by decide +kernel
theorem dX9_rest_11 : decode cX9_rest 11 = .ok (.ifCond .eq 15, 3) := by decide +kernel
theorem dX9_rest_14 : decode cX9_rest 14 = .ok (.iload_n 3, 1) := by decide +kernel
theorem dX9_rest_15 : decode cX9_rest 15 = .ok (.invokestatic 335, 3) := by decide +kernel
theorem dX9_rest_18 : decode cX9_rest 18 = .ok (.ifCond .eq 8, 3) := by decide +kernel
theorem dX9_rest_21 : decode cX9_rest 21 = .ok (.iload 4, 2) := by decide +kernel
theorem dX9_rest_23 : decode cX9_rest 23 = .ok (.ifCond .ge 5, 3) := by decide +kernel
theorem dX9_rest_26 : decode cX9_rest 26 = .ok (.iconst (-1), 1) := by decide +kernel
theorem dX9_rest_27 : decode cX9_rest 27 = .ok (.ireturn, 1) := by decide +kernel
theorem dX9_rest_28 : decode cX9_rest 28 = .ok (.iconst 0, 1) := by decide +kernel
theorem dX9_rest_29 : decode cX9_rest 29 = .ok (.istore 5, 2) := by decide +kernel
theorem dX9_rest_31 : decode cX9_rest 31 = .ok (.iconst 0, 1) := by decide +kernel
theorem dX9_rest_32 : decode cX9_rest 32 = .ok (.istore 6, 2) := by decide +kernel
theorem dX9_rest_34 : decode cX9_rest 34 = .ok (.iload 6, 2) := by decide +kernel
theorem dX9_rest_36 : decode cX9_rest 36 = .ok (.bipush 100, 2) := by decide +kernel
theorem dX9_rest_38 : decode cX9_rest 38 = .ok (.if_icmp .ge 33, 3) := by decide +kernel
theorem dX9_rest_41 : decode cX9_rest 41 = .ok (.iload_n 1, 1) := by decide +kernel
theorem dX9_rest_42 : decode cX9_rest 42 = .ok (.iload_n 2, 1) := by decide +kernel
theorem dX9_rest_43 : decode cX9_rest 43 = .ok (.iload_n 3, 1) := by decide +kernel
theorem dX9_rest_44 : decode cX9_rest 44 = .ok (.iload 6, 2) := by decide +kernel
theorem dX9_rest_46 : decode cX9_rest 46 = .ok (.invokestatic 338, 3) := by decide +kernel
theorem dX9_rest_49 : decode cX9_rest 49 = .ok (.ifCond .eq 16, 3) := by decide +kernel
theorem dX9_rest_52 : decode cX9_rest 52 = .ok (.iload 5, 2) := by decide +kernel
theorem dX9_rest_54 : decode cX9_rest 54 = .ok (.iload 4, 2) := by decide +kernel
theorem dX9_rest_56 : decode cX9_rest 56 = .ok (.if_icmp .ne 6, 3) := by decide +kernel
theorem dX9_rest_59 : decode cX9_rest 59 = .ok (.iload 6, 2) := by decide +kernel
theorem dX9_rest_61 : decode cX9_rest 61 = .ok (.ireturn, 1) := by decide +kernel
theorem dX9_rest_62 : decode cX9_rest 62 = .ok (.iinc 5 1, 3) := by decide +kernel
theorem dX9_rest_65 : decode cX9_rest 65 = .ok (.iinc 6 1, 3) := by decide +kernel
theorem dX9_rest_68 : decode cX9_rest 68 = .ok (.goto (-34), 3) := by decide +kernel
theorem dX9_rest_71 : decode cX9_rest 71 = .ok (.bipush (-2), 2) := by decide +kernel
theorem dX9_rest_73 : decode cX9_rest 73 = .ok (.ireturn, 1) := by decide +kernel
theorem dX9_isStake_0 : decode cX9_isStake 0 = .ok (.iload_n 0, 1) := by decide +kernel
theorem dX9_isStake_1 : decode cX9_isStake 1 = .ok (.ifCond .lt 13, 3) := by decide +kernel
theorem dX9_isStake_4 : decode cX9_isStake 4 = .ok (.iload_n 0, 1) := by decide +kernel
theorem dX9_isStake_5 : decode cX9_isStake 5 = .ok (.bipush 99, 2) := by decide +kernel
theorem dX9_isStake_7 : decode cX9_isStake 7 = .ok (.if_icmp .gt 7, 3) := by decide +kernel
theorem dX9_isStake_10 : decode cX9_isStake 10 = .ok (.iconst 1, 1) := by decide +kernel
theorem dX9_isStake_11 : decode cX9_isStake 11 = .ok (.goto 4, 3) := by decide +kernel
theorem dX9_isStake_14 : decode cX9_isStake 14 = .ok (.iconst 0, 1) := by decide +kernel
theorem dX9_isStake_15 : decode cX9_isStake 15 = .ok (.ireturn, 1) := by decide +kernel
theorem dX9_isRest_0 : decode cX9_isRest 0 = .ok (.iload_n 3, 1) := by decide +kernel
theorem dX9_isRest_1 : decode cX9_isRest 1 = .ok (.bipush 10, 2) := by decide +kernel
theorem dX9_isRest_3 : decode cX9_isRest 3 = .ok (.idiv, 1) := by decide +kernel
theorem dX9_isRest_4 : decode cX9_isRest 4 = .ok (.istore 4, 2) := by decide +kernel
theorem dX9_isRest_6 : decode cX9_isRest 6 = .ok (.iload_n 3, 1) := by decide +kernel
theorem dX9_isRest_7 : decode cX9_isRest 7 = .ok (.bipush 10, 2) := by decide +kernel
theorem dX9_isRest_9 : decode cX9_isRest 9 = .ok (.irem, 1) := by decide +kernel
theorem dX9_isRest_10 : decode cX9_isRest 10 = .ok (.istore 5, 2) := by decide +kernel
theorem dX9_isRest_12 : decode cX9_isRest 12 = .ok (.iload_n 0, 1) := by decide +kernel
theorem dX9_isRest_13 : decode cX9_isRest 13 = .ok (.iload_n 1, 1) := by decide +kernel
theorem dX9_isRest_14 : decode cX9_isRest 14 = .ok (.iload 4, 2) := by decide +kernel
theorem dX9_isRest_16 : decode cX9_isRest 16 = .ok (.iload 5, 2) := by decide +kernel
theorem dX9_isRest_18 : decode cX9_isRest 18 = .ok (.invokestatic 342, 3) := by decide +kernel
theorem dX9_isRest_21 : decode cX9_isRest 21 = .ok (.istore 6, 2) := by decide +kernel
theorem dX9_isRest_23 : decode cX9_isRest 23 = .ok (.iload_n 0, 1) := by decide +kernel
theorem dX9_isRest_24 : decode cX9_isRest 24 = .ok (.iload_n 2, 1) := by decide +kernel
theorem dX9_isRest_25 : decode cX9_isRest 25 = .ok (.iload 5, 2) := by decide +kernel
theorem dX9_isRest_27 : decode cX9_isRest 27 = .ok (.iload 4, 2) := by decide +kernel
theorem dX9_isRest_29 : decode cX9_isRest 29 = .ok (.invokestatic 342, 3) := by decide +kernel
theorem dX9_isRest_32 : decode cX9_isRest 32 = .ok (.istore 7, 2) := by decide +kernel
theorem dX9_isRest_34 : decode cX9_isRest 34 = .ok (.iconst 0, 1) := by decide +kernel
theorem dX9_isRest_35 : decode cX9_isRest 35 = .ok (.istore 8, 2) := by decide +kernel
theorem dX9_isRest_37 : decode cX9_isRest 37 = .ok (.iload 8, 2) := by decide +kernel
theorem dX9_isRest_39 : decode cX9_isRest 39 = .ok (.bipush 10, 2) := by decide +kernel
theorem dX9_isRest_41 : decode cX9_isRest 41 = .ok (.if_icmp .ge 39, 3) := by decide +kernel
theorem dX9_isRest_44 : decode cX9_isRest 44 = .ok (.iload_n 0, 1) := by decide +kernel
theorem dX9_isRest_45 : decode cX9_isRest 45 = .ok (.iload_n 1, 1) := by decide +kernel
theorem dX9_isRest_46 : decode cX9_isRest 46 = .ok (.iload 8, 2) := by decide +kernel
theorem dX9_isRest_48 : decode cX9_isRest 48 = .ok (.iload 5, 2) := by decide +kernel
theorem dX9_isRest_50 : decode cX9_isRest 50 = .ok (.invokestatic 342, 3) := by decide +kernel
theorem dX9_isRest_53 : decode cX9_isRest 53 = .ok (.iload 6, 2) := by decide +kernel
theorem dX9_isRest_55 : decode cX9_isRest 55 = .ok (.if_icmp .gt 17, 3) := by decide +kernel
theorem dX9_isRest_58 : decode cX9_isRest 58 = .ok (.iload_n 0, 1) := by decide +kernel
theorem dX9_isRest_59 : decode cX9_isRest 59 = .ok (.iload_n 2, 1) := by decide +kernel
theorem dX9_isRest_60 : decode cX9_isRest 60 = .ok (.iload 8, 2) := by decide +kernel
theorem dX9_isRest_62 : decode cX9_isRest 62 = .ok (.iload 4, 2) := by decide +kernel
theorem dX9_isRest_64 : decode cX9_isRest 64 = .ok (.invokestatic 342, 3) := by decide +kernel
theorem dX9_isRest_67 : decode cX9_isRest 67 = .ok (.iload 7, 2) := by decide +kernel
theorem dX9_isRest_69 : decode cX9_isRest 69 = .ok (.if_icmp .le 5, 3) := by decide +kernel
theorem dX9_isRest_72 : decode cX9_isRest 72 = .ok (.iconst 0, 1) := by decide +kernel
theorem dX9_isRest_73 : decode cX9_isRest 73 = .ok (.ireturn, 1) := by decide +kernel
theorem dX9_isRest_74 : decode cX9_isRest 74 = .ok (.iinc 8 1, 3) := by decide +kernel
theorem dX9_isRest_77 : decode cX9_isRest 77 = .ok (.goto (-40), 3) := by decide +kernel
theorem dX9_isRest_80 : decode cX9_isRest 80 = .ok (.iconst 1, 1) := by decide +kernel
theorem dX9_isRest_81 : decode cX9_isRest 81 = .ok (.ireturn, 1) := by decide +kernel
theorem dX9_gain_0 : decode cX9_gain 0 = .ok (.iload_n 1, 1) := by decide +kernel
theorem dX9_gain_1 : decode cX9_gain 1 = .ok (.iload_n 2, 1) := by decide +kernel
theorem dX9_gain_2 : decode cX9_gain 2 = .ok (.iload_n 3, 1) := by decide +kernel
theorem dX9_gain_3 : decode cX9_gain 3 = .ok (.invokestatic 346, 3) := by decide +kernel
theorem dX9_gain_6 : decode cX9_gain 6 = .ok (.imul, 1) := by decide +kernel
theorem dX9_gain_7 : decode cX9_gain 7 = .ok (.istore 4, 2) := by decide +kernel
theorem dX9_gain_9 : decode cX9_gain 9 = .ok (.iload_n 2, 1) := by decide +kernel
theorem dX9_gain_10 : decode cX9_gain 10 = .ok (.iload_n 3, 1) := by decide +kernel
theorem dX9_gain_11 : decode cX9_gain 11 = .ok (.if_icmp .ne 10, 3) := by decide +kernel
theorem dX9_gain_14 : decode cX9_gain 14 = .ok (.iload_n 0, 1) := by decide +kernel
theorem dX9_gain_15 : decode cX9_gain 15 = .ok (.iconst 2, 1) := by decide +kernel
theorem dX9_gain_16 : decode cX9_gain 16 = .ok (.idiv, 1) := by decide +kernel
theorem dX9_gain_17 : decode cX9_gain 17 = .ok (.iload 4, 2) := by decide +kernel
theorem dX9_gain_19 : decode cX9_gain 19 = .ok (.isub, 1) := by decide +kernel
theorem dX9_gain_20 : decode cX9_gain 20 = .ok (.ireturn, 1) := by decide +kernel
theorem dX9_gain_21 : decode cX9_gain 21 = .ok (.iload_n 2, 1) := by decide +kernel
theorem dX9_gain_22 : decode cX9_gain 22 = .ok (.iload_n 3, 1) := by decide +kernel
theorem dX9_gain_23 : decode cX9_gain 23 = .ok (.if_icmp .le 10, 3) := by decide +kernel
theorem dX9_gain_26 : decode cX9_gain 26 = .ok (.iload_n 0, 1) := by decide +kernel
theorem dX9_gain_27 : decode cX9_gain 27 = .ok (.iload 4, 2) := by decide +kernel
theorem dX9_gain_29 : decode cX9_gain 29 = .ok (.isub, 1) := by decide +kernel
theorem dX9_gain_30 : decode cX9_gain 30 = .ok (.goto 6, 3) := by decide +kernel
theorem dX9_gain_33 : decode cX9_gain 33 = .ok (.iload 4, 2) := by decide +kernel
theorem dX9_gain_35 : decode cX9_gain 35 = .ok (.ineg, 1) := by decide +kernel
theorem dX9_gain_36 : decode cX9_gain 36 = .ok (.ireturn, 1) := by decide +kernel
theorem dX9_year_0 : decode cX9_year 0 = .ok (.iload_n 1, 1) := by decide +kernel
theorem dX9_year_1 : decode cX9_year 1 = .ok (.ifCond .lt 13, 3) := by decide +kernel
theorem dX9_year_4 : decode cX9_year 4 = .ok (.iload_n 2, 1) := by decide +kernel
theorem dX9_year_5 : decode cX9_year 5 = .ok (.ifCond .lt 9, 3) := by decide +kernel
theorem dX9_year_8 : decode cX9_year 8 = .ok (.iload_n 2, 1) := by decide +kernel
theorem dX9_year_9 : decode cX9_year 9 = .ok (.bipush 20, 2) := by decide +kernel
theorem dX9_year_11 : decode cX9_year 11 = .ok (.if_icmp .le 5, 3) := by decide +kernel
theorem dX9_year_14 : decode cX9_year 14 = .ok (.iconst (-1), 1) := by decide +kernel
theorem dX9_year_15 : decode cX9_year 15 = .ok (.ireturn, 1) := by decide +kernel
theorem dX9_year_16 : decode cX9_year 16 = .ok (.aload_n 0, 1) := by decide +kernel
theorem dX9_year_17 : decode cX9_year 17 = .ok (.invokevirtual 139, 3) := by decide +kernel
theorem dX9_year_20 : decode cX9_year 20 = .ok (.invokevirtual 349, 3) := by decide +kernel
theorem dX9_year_23 : decode cX9_year 23 = .ok (.istore_n 3, 1) := by decide +kernel
theorem dX9_year_24 : decode cX9_year 24 = .ok (.aload_n 0, 1) := by decide +kernel
theorem dX9_year_25 : decode cX9_year 25 = .ok (.iconst 3, 1) := by decide +kernel
theorem dX9_year_26 : decode cX9_year 26 = .ok (.iconst 0, 1) := by decide +kernel
theorem dX9_year_27 : decode cX9_year 27 = .ok (.invokevirtual 352, 3) := by decide +kernel
theorem dX9_year_30 : decode cX9_year 30 = .ok (.istore 4, 2) := by decide +kernel
theorem dX9_year_32 : decode cX9_year 32 = .ok (.aload_n 0, 1) := by decide +kernel
theorem dX9_year_33 : decode cX9_year 33 = .ok (.getfield 23, 3) := by decide +kernel
theorem dX9_year_36 : decode cX9_year 36 = .ok (.getfield 115, 3) := by decide +kernel
theorem dX9_year_39 : decode cX9_year 39 = .ok (.getfield 208, 3) := by decide +kernel
theorem dX9_year_42 : decode cX9_year 42 = .ok (.istore 5, 2) := by decide +kernel
theorem dX9_year_44 : decode cX9_year 44 = .ok (.iload_n 1, 1) := by decide +kernel
theorem dX9_year_45 : decode cX9_year 45 = .ok (.istore 6, 2) := by decide +kernel
theorem dX9_year_47 : decode cX9_year 47 = .ok (.iconst 0, 1) := by decide +kernel
theorem dX9_year_48 : decode cX9_year 48 = .ok (.istore 7, 2) := by decide +kernel
theorem dX9_year_50 : decode cX9_year 50 = .ok (.iconst 0, 1) := by decide +kernel
theorem dX9_year_51 : decode cX9_year 51 = .ok (.istore 8, 2) := by decide +kernel
theorem dX9_year_53 : decode cX9_year 53 = .ok (.iload 8, 2) := by decide +kernel
theorem dX9_year_55 : decode cX9_year 55 = .ok (.iload_n 2, 1) := by decide +kernel
theorem dX9_year_56 : decode cX9_year 56 = .ok (.if_icmp .ge 115, 3) := by decide +kernel
theorem dX9_year_59 : decode cX9_year 59 = .ok (.iload 6, 2) := by decide +kernel
theorem dX9_year_61 : decode cX9_year 61 = .ok (.invokestatic 355, 3) := by decide +kernel
theorem dX9_year_64 : decode cX9_year 64 = .ok (.istore 6, 2) := by decide +kernel
theorem dX9_year_66 : decode cX9_year 66 = .ok (.iload 6, 2) := by decide +kernel
theorem dX9_year_68 : decode cX9_year 68 = .ok (.bipush 16, 2) := by decide +kernel
theorem dX9_year_70 : decode cX9_year 70 = .ok (.ishr, 1) := by decide +kernel
theorem dX9_year_71 : decode cX9_year 71 = .ok (.iconst 3, 1) := by decide +kernel
theorem dX9_year_72 : decode cX9_year 72 = .ok (.irem, 1) := by decide +kernel
theorem dX9_year_73 : decode cX9_year 73 = .ok (.istore 9, 2) := by decide +kernel
theorem dX9_year_75 : decode cX9_year 75 = .ok (.iload 9, 2) := by decide +kernel
theorem dX9_year_77 : decode cX9_year 77 = .ok (.ifCond .ne 13, 3) := by decide +kernel
theorem dX9_year_80 : decode cX9_year 80 = .ok (.iload 7, 2) := by decide +kernel
theorem dX9_year_82 : decode cX9_year 82 = .ok (.iload 4, 2) := by decide +kernel
theorem dX9_year_84 : decode cX9_year 84 = .ok (.iadd, 1) := by decide +kernel
theorem dX9_year_85 : decode cX9_year 85 = .ok (.istore 7, 2) := by decide +kernel
theorem dX9_year_87 : decode cX9_year 87 = .ok (.goto 78, 3) := by decide +kernel
theorem dX9_year_90 : decode cX9_year 90 = .ok (.iload 9, 2) := by decide +kernel
theorem dX9_year_92 : decode cX9_year 92 = .ok (.iconst 1, 1) := by decide +kernel
theorem dX9_year_93 : decode cX9_year 93 = .ok (.if_icmp .ne 66, 3) := by decide +kernel
theorem dX9_year_96 : decode cX9_year 96 = .ok (.iload 5, 2) := by decide +kernel
theorem dX9_year_98 : decode cX9_year 98 = .ok (.ifCond .le 61, 3) := by decide +kernel
theorem dX9_year_101 : decode cX9_year 101 = .ok (.aload_n 0, 1) := by decide +kernel
theorem dX9_year_102 : decode cX9_year 102 = .ok (.getfield 23, 3) := by decide +kernel
theorem dX9_year_105 : decode cX9_year 105 = .ok (.getfield 122, 3) := by decide +kernel
theorem dX9_year_108 : decode cX9_year 108 = .ok (.getfield 208, 3) := by decide +kernel
theorem dX9_year_111 : decode cX9_year 111 = .ok (.ifCond .le 48, 3) := by decide +kernel
theorem dX9_year_114 : decode cX9_year 114 = .ok (.iload 6, 2) := by decide +kernel
theorem dX9_year_116 : decode cX9_year 116 = .ok (.invokestatic 355, 3) := by decide +kernel
theorem dX9_year_119 : decode cX9_year 119 = .ok (.istore 10, 2) := by decide +kernel
theorem dX9_year_121 : decode cX9_year 121 = .ok (.iload 10, 2) := by decide +kernel
theorem dX9_year_123 : decode cX9_year 123 = .ok (.invokestatic 355, 3) := by decide +kernel
theorem dX9_year_126 : decode cX9_year 126 = .ok (.invokestatic 355, 3) := by decide +kernel
theorem dX9_year_129 : decode cX9_year 129 = .ok (.istore 6, 2) := by decide +kernel
theorem dX9_year_131 : decode cX9_year 131 = .ok (.iload 7, 2) := by decide +kernel
theorem dX9_year_133 : decode cX9_year 133 = .ok (.aload_n 0, 1) := by decide +kernel
theorem dX9_year_134 : decode cX9_year 134 = .ok (.iload 10, 2) := by decide +kernel
theorem dX9_year_136 : decode cX9_year 136 = .ok (.bipush 16, 2) := by decide +kernel
theorem dX9_year_138 : decode cX9_year 138 = .ok (.ishr, 1) := by decide +kernel
theorem dX9_year_139 : decode cX9_year 139 = .ok (.iload 5, 2) := by decide +kernel
theorem dX9_year_141 : decode cX9_year 141 = .ok (.irem, 1) := by decide +kernel
theorem dX9_year_142 : decode cX9_year 142 = .ok (.iload 6, 2) := by decide +kernel
theorem dX9_year_144 : decode cX9_year 144 = .ok (.bipush 16, 2) := by decide +kernel
theorem dX9_year_146 : decode cX9_year 146 = .ok (.ishr, 1) := by decide +kernel
theorem dX9_year_147 : decode cX9_year 147 = .ok (.bipush 44, 2) := by decide +kernel
theorem dX9_year_149 : decode cX9_year 149 = .ok (.irem, 1) := by decide +kernel
theorem dX9_year_150 : decode cX9_year 150 = .ok (.invokevirtual 358, 3) := by decide +kernel
theorem dX9_year_153 : decode cX9_year 153 = .ok (.iadd, 1) := by decide +kernel
theorem dX9_year_154 : decode cX9_year 154 = .ok (.istore 7, 2) := by decide +kernel
theorem dX9_year_156 : decode cX9_year 156 = .ok (.goto 9, 3) := by decide +kernel
theorem dX9_year_159 : decode cX9_year 159 = .ok (.iload 7, 2) := by decide +kernel
theorem dX9_year_161 : decode cX9_year 161 = .ok (.iload_n 3, 1) := by decide +kernel
theorem dX9_year_162 : decode cX9_year 162 = .ok (.iadd, 1) := by decide +kernel
theorem dX9_year_163 : decode cX9_year 163 = .ok (.istore 7, 2) := by decide +kernel
theorem dX9_year_165 : decode cX9_year 165 = .ok (.iinc 8 1, 3) := by decide +kernel
theorem dX9_year_168 : decode cX9_year 168 = .ok (.goto (-115), 3) := by decide +kernel
theorem dX9_year_171 : decode cX9_year 171 = .ok (.iload 7, 2) := by decide +kernel
theorem dX9_year_173 : decode cX9_year 173 = .ok (.ireturn, 1) := by decide +kernel
theorem dX9_nextNumber_0 : decode cX9_nextNumber 0 = .ok (.iload_n 0, 1) := by decide +kernel
theorem dX9_nextNumber_1 : decode cX9_nextNumber 1 = .ok (.ldc_w 361, 3) := by decide +kernel
theorem dX9_nextNumber_4 : decode cX9_nextNumber 4 = .ok (.imul, 1) := by decide +kernel
theorem dX9_nextNumber_5 : decode cX9_nextNumber 5 = .ok (.sipush 12345, 3) := by decide +kernel
theorem dX9_nextNumber_8 : decode cX9_nextNumber 8 = .ok (.iadd, 1) := by decide +kernel
theorem dX9_nextNumber_9 : decode cX9_nextNumber 9 = .ok (.ldc_w 312, 3) := by decide +kernel
theorem dX9_nextNumber_12 : decode cX9_nextNumber 12 = .ok (.iand, 1) := by decide +kernel
theorem dX9_nextNumber_13 : decode cX9_nextNumber 13 = .ok (.ireturn, 1) := by decide +kernel
theorem dX9_quarrelled_0 : decode cX9_quarrelled 0 = .ok (.iconst 0, 1) := by decide +kernel
theorem dX9_quarrelled_1 : decode cX9_quarrelled 1 = .ok (.istore_n 3, 1) := by decide +kernel
theorem dX9_quarrelled_2 : decode cX9_quarrelled 2 = .ok (.iconst 0, 1) := by decide +kernel
theorem dX9_quarrelled_3 : decode cX9_quarrelled 3 = .ok (.istore 4, 2) := by decide +kernel
theorem dX9_quarrelled_5 : decode cX9_quarrelled 5 = .ok (.iload 4, 2) := by decide +kernel
theorem dX9_quarrelled_7 : decode cX9_quarrelled 7 = .ok (.aload_n 0, 1) := by decide +kernel
theorem dX9_quarrelled_8 : decode cX9_quarrelled 8 = .ok (.getfield 23, 3) := by decide +kernel
theorem dX9_quarrelled_11 : decode cX9_quarrelled 11 = .ok (.getfield 115, 3) := by decide +kernel
theorem dX9_quarrelled_14 : decode cX9_quarrelled 14 = .ok (.getfield 208, 3) := by decide +kernel
theorem dX9_quarrelled_17 : decode cX9_quarrelled 17 = .ok (.if_icmp .ge 53, 3) := by decide +kernel
theorem dX9_quarrelled_20 : decode cX9_quarrelled 20 = .ok (.aload_n 0, 1) := by decide +kernel
theorem dX9_quarrelled_21 : decode cX9_quarrelled 21 = .ok (.getfield 39, 3) := by decide +kernel
theorem dX9_quarrelled_24 : decode cX9_quarrelled 24 = .ok (.aload_n 0, 1) := by decide +kernel
theorem dX9_quarrelled_25 : decode cX9_quarrelled 25 = .ok (.getfield 23, 3) := by decide +kernel
theorem dX9_quarrelled_28 : decode cX9_quarrelled 28 = .ok (.iload_n 1, 1) := by decide +kernel
theorem dX9_quarrelled_29 : decode cX9_quarrelled 29 = .ok (.iload_n 2, 1) := by decide +kernel
theorem dX9_quarrelled_30 : decode cX9_quarrelled 30 = .ok (.iload_n 2, 1) := by decide +kernel
theorem dX9_quarrelled_31 : decode cX9_quarrelled 31 = .ok (.iconst 3, 1) := by decide +kernel
theorem dX9_quarrelled_32 : decode cX9_quarrelled 32 = .ok (.iadd, 1) := by decide +kernel
theorem dX9_quarrelled_33 : decode cX9_quarrelled 33 = .ok (.bipush 10, 2) := by decide +kernel
theorem dX9_quarrelled_35 : decode cX9_quarrelled 35 = .ok (.iload 4, 2) := by decide +kernel
theorem dX9_quarrelled_37 : decode cX9_quarrelled 37 = .ok (.invokevirtual 282, 3) := by decide +kernel
theorem dX9_quarrelled_40 : decode cX9_quarrelled 40 = .ok (.lstore 5, 2) := by decide +kernel
theorem dX9_quarrelled_42 : decode cX9_quarrelled 42 = .ok (.iload_n 3, 1) := by decide +kernel
theorem dX9_quarrelled_43 : decode cX9_quarrelled 43 = .ok (.aload_n 0, 1) := by decide +kernel
theorem dX9_quarrelled_44 : decode cX9_quarrelled 44 = .ok (.getfield 39, 3) := by decide +kernel
theorem dX9_quarrelled_47 : decode cX9_quarrelled 47 = .ok (.iload 4, 2) := by decide +kernel
theorem dX9_quarrelled_49 : decode cX9_quarrelled 49 = .ok (.invokevirtual 192, 3) := by decide +kernel
theorem dX9_quarrelled_52 : decode cX9_quarrelled 52 = .ok (.lload 5, 2) := by decide +kernel
theorem dX9_quarrelled_54 : decode cX9_quarrelled 54 = .ok (.ldc2_w 196, 3) := by decide +kernel
theorem dX9_quarrelled_57 : decode cX9_quarrelled 57 = .ok (.lxor, 1) := by decide +kernel
theorem dX9_quarrelled_58 : decode cX9_quarrelled 58 = .ok (.land, 1) := by decide +kernel
theorem dX9_quarrelled_59 : decode cX9_quarrelled 59 = .ok (.invokestatic 362, 3) := by decide +kernel
theorem dX9_quarrelled_62 : decode cX9_quarrelled 62 = .ok (.iadd, 1) := by decide +kernel
theorem dX9_quarrelled_63 : decode cX9_quarrelled 63 = .ok (.istore_n 3, 1) := by decide +kernel
theorem dX9_quarrelled_64 : decode cX9_quarrelled 64 = .ok (.iinc 4 1, 3) := by decide +kernel
theorem dX9_quarrelled_67 : decode cX9_quarrelled 67 = .ok (.goto (-62), 3) := by decide +kernel
theorem dX9_quarrelled_70 : decode cX9_quarrelled 70 = .ok (.iload_n 3, 1) := by decide +kernel
theorem dX9_quarrelled_71 : decode cX9_quarrelled 71 = .ok (.ireturn, 1) := by decide +kernel
theorem dX9_tried_0 : decode cX9_tried 0 = .ok (.aload_n 0, 1) := by decide +kernel
theorem dX9_tried_1 : decode cX9_tried 1 = .ok (.iload_n 1, 1) := by decide +kernel
theorem dX9_tried_2 : decode cX9_tried 2 = .ok (.iload_n 2, 1) := by decide +kernel
theorem dX9_tried_3 : decode cX9_tried 3 = .ok (.invokevirtual 367, 3) := by decide +kernel
theorem dX9_tried_6 : decode cX9_tried 6 = .ok (.ifCond .ne 5, 3) := by decide +kernel
theorem dX9_tried_9 : decode cX9_tried 9 = .ok (.iconst (-1), 1) := by decide +kernel
theorem dX9_tried_10 : decode cX9_tried 10 = .ok (.ireturn, 1) := by decide +kernel
theorem dX9_tried_11 : decode cX9_tried 11 = .ok (.aload_n 0, 1) := by decide +kernel
theorem dX9_tried_12 : decode cX9_tried 12 = .ok (.getfield 33, 3) := by decide +kernel
theorem dX9_tried_15 : decode cX9_tried 15 = .ok (.aload_n 0, 1) := by decide +kernel
theorem dX9_tried_16 : decode cX9_tried 16 = .ok (.getfield 23, 3) := by decide +kernel
theorem dX9_tried_19 : decode cX9_tried 19 = .ok (.invokevirtual 263, 3) := by decide +kernel
theorem dX9_tried_22 : decode cX9_tried 22 = .ok (.iload_n 1, 1) := by decide +kernel
theorem dX9_tried_23 : decode cX9_tried 23 = .ok (.tableswitch 133 0 5 #[37, 75, 91, 102, 133, 112], 37) := by decide +kernel
theorem dX9_tried_60 : decode cX9_tried 60 = .ok (.iconst 0, 1) := by decide +kernel
theorem dX9_tried_61 : decode cX9_tried 61 = .ok (.istore_n 3, 1) := by decide +kernel
theorem dX9_tried_62 : decode cX9_tried 62 = .ok (.iload_n 3, 1) := by decide +kernel
theorem dX9_tried_63 : decode cX9_tried 63 = .ok (.aload_n 0, 1) := by decide +kernel
theorem dX9_tried_64 : decode cX9_tried 64 = .ok (.getfield 33, 3) := by decide +kernel
theorem dX9_tried_67 : decode cX9_tried 67 = .ok (.getfield 162, 3) := by decide +kernel
theorem dX9_tried_70 : decode cX9_tried 70 = .ok (.getfield 208, 3) := by decide +kernel
theorem dX9_tried_73 : decode cX9_tried 73 = .ok (.if_icmp .ge 22, 3) := by decide +kernel
theorem dX9_tried_76 : decode cX9_tried 76 = .ok (.aload_n 0, 1) := by decide +kernel
theorem dX9_tried_77 : decode cX9_tried 77 = .ok (.getfield 33, 3) := by decide +kernel
theorem dX9_tried_80 : decode cX9_tried 80 = .ok (.getfield 162, 3) := by decide +kernel
theorem dX9_tried_83 : decode cX9_tried 83 = .ok (.iload_n 3, 1) := by decide +kernel
theorem dX9_tried_84 : decode cX9_tried 84 = .ok (.iconst 3, 1) := by decide +kernel
theorem dX9_tried_85 : decode cX9_tried 85 = .ok (.iconst 0, 1) := by decide +kernel
theorem dX9_tried_86 : decode cX9_tried 86 = .ok (.invokevirtual 233, 3) := by decide +kernel
theorem dX9_tried_89 : decode cX9_tried 89 = .ok (.iinc 3 1, 3) := by decide +kernel
theorem dX9_tried_92 : decode cX9_tried 92 = .ok (.goto (-30), 3) := by decide +kernel
theorem dX9_tried_95 : decode cX9_tried 95 = .ok (.goto 61, 3) := by decide +kernel
theorem dX9_tried_98 : decode cX9_tried 98 = .ok (.aload_n 0, 1) := by decide +kernel
theorem dX9_tried_99 : decode cX9_tried 99 = .ok (.getfield 33, 3) := by decide +kernel
theorem dX9_tried_102 : decode cX9_tried 102 = .ok (.getfield 156, 3) := by decide +kernel
theorem dX9_tried_105 : decode cX9_tried 105 = .ok (.iload_n 2, 1) := by decide +kernel
theorem dX9_tried_106 : decode cX9_tried 106 = .ok (.iconst 5, 1) := by decide +kernel
theorem dX9_tried_107 : decode cX9_tried 107 = .ok (.iconst 1, 1) := by decide +kernel
theorem dX9_tried_108 : decode cX9_tried 108 = .ok (.invokevirtual 233, 3) := by decide +kernel
theorem dX9_tried_111 : decode cX9_tried 111 = .ok (.goto 45, 3) := by decide +kernel
theorem dX9_tried_114 : decode cX9_tried 114 = .ok (.aload_n 0, 1) := by decide +kernel
theorem dX9_tried_115 : decode cX9_tried 115 = .ok (.getfield 33, 3) := by decide +kernel
theorem dX9_tried_118 : decode cX9_tried 118 = .ok (.iload_n 2, 1) := by decide +kernel
theorem dX9_tried_119 : decode cX9_tried 119 = .ok (.invokevirtual 370, 3) := by decide +kernel
theorem dX9_tried_122 : decode cX9_tried 122 = .ok (.goto 34, 3) := by decide +kernel
theorem dX9_tried_125 : decode cX9_tried 125 = .ok (.aload_n 0, 1) := by decide +kernel
theorem dX9_tried_126 : decode cX9_tried 126 = .ok (.getfield 33, 3) := by decide +kernel
theorem dX9_tried_129 : decode cX9_tried 129 = .ok (.invokevirtual 373, 3) := by decide +kernel
theorem dX9_tried_132 : decode cX9_tried 132 = .ok (.goto 24, 3) := by decide +kernel
theorem dX9_tried_135 : decode cX9_tried 135 = .ok (.aload_n 0, 1) := by decide +kernel
theorem dX9_tried_136 : decode cX9_tried 136 = .ok (.getfield 33, 3) := by decide +kernel
theorem dX9_tried_139 : decode cX9_tried 139 = .ok (.getfield 156, 3) := by decide +kernel
theorem dX9_tried_142 : decode cX9_tried 142 = .ok (.iload_n 2, 1) := by decide +kernel
theorem dX9_tried_143 : decode cX9_tried 143 = .ok (.iconst (-1), 1) := by decide +kernel
theorem dX9_tried_144 : decode cX9_tried 144 = .ok (.iconst 0, 1) := by decide +kernel
theorem dX9_tried_145 : decode cX9_tried 145 = .ok (.bipush 47, 2) := by decide +kernel
theorem dX9_tried_147 : decode cX9_tried 147 = .ok (.bipush 8, 2) := by decide +kernel
theorem dX9_tried_149 : decode cX9_tried 149 = .ok (.invokevirtual 225, 3) := by decide +kernel
theorem dX9_tried_152 : decode cX9_tried 152 = .ok (.pop, 1) := by decide +kernel
theorem dX9_tried_153 : decode cX9_tried 153 = .ok (.goto 3, 3) := by decide +kernel
theorem dX9_tried_156 : decode cX9_tried 156 = .ok (.aload_n 0, 1) := by decide +kernel
theorem dX9_tried_157 : decode cX9_tried 157 = .ok (.iload_n 1, 1) := by decide +kernel
theorem dX9_tried_158 : decode cX9_tried 158 = .ok (.iconst 4, 1) := by decide +kernel
theorem dX9_tried_159 : decode cX9_tried 159 = .ok (.if_icmp .ne 7, 3) := by decide +kernel
theorem dX9_tried_162 : decode cX9_tried 162 = .ok (.iload_n 2, 1) := by decide +kernel
theorem dX9_tried_163 : decode cX9_tried 163 = .ok (.goto 4, 3) := by decide +kernel
theorem dX9_tried_166 : decode cX9_tried 166 = .ok (.iconst (-1), 1) := by decide +kernel
theorem dX9_tried_167 : decode cX9_tried 167 = .ok (.invokevirtual 328, 3) := by decide +kernel
theorem dX9_tried_170 : decode cX9_tried 170 = .ok (.aload_n 0, 1) := by decide +kernel
theorem dX9_tried_171 : decode cX9_tried 171 = .ok (.getfield 43, 3) := by decide +kernel
theorem dX9_tried_174 : decode cX9_tried 174 = .ok (.invokevirtual 349, 3) := by decide +kernel
theorem dX9_tried_177 : decode cX9_tried 177 = .ok (.ireturn, 1) := by decide +kernel
theorem dX9_canTry_0 : decode cX9_canTry 0 = .ok (.iload_n 1, 1) := by decide +kernel
theorem dX9_canTry_1 : decode cX9_canTry 1 = .ok (.tableswitch 97 0 5 #[39, 49, 61, 39, 73, 85], 39) := by decide +kernel
theorem dX9_canTry_40 : decode cX9_canTry 40 = .ok (.iload_n 2, 1) := by decide +kernel
theorem dX9_canTry_41 : decode cX9_canTry 41 = .ok (.ifCond .ne 7, 3) := by decide +kernel
theorem dX9_canTry_44 : decode cX9_canTry 44 = .ok (.iconst 1, 1) := by decide +kernel
theorem dX9_canTry_45 : decode cX9_canTry 45 = .ok (.goto 4, 3) := by decide +kernel
theorem dX9_canTry_48 : decode cX9_canTry 48 = .ok (.iconst 0, 1) := by decide +kernel
theorem dX9_canTry_49 : decode cX9_canTry 49 = .ok (.ireturn, 1) := by decide +kernel
theorem dX9_canTry_50 : decode cX9_canTry 50 = .ok (.aload_n 0, 1) := by decide +kernel
theorem dX9_canTry_51 : decode cX9_canTry 51 = .ok (.getfield 23, 3) := by decide +kernel
theorem dX9_canTry_54 : decode cX9_canTry 54 = .ok (.getfield 156, 3) := by decide +kernel
theorem dX9_canTry_57 : decode cX9_canTry 57 = .ok (.iload_n 2, 1) := by decide +kernel
theorem dX9_canTry_58 : decode cX9_canTry 58 = .ok (.invokevirtual 125, 3) := by decide +kernel
theorem dX9_canTry_61 : decode cX9_canTry 61 = .ok (.ireturn, 1) := by decide +kernel
theorem dX9_canTry_62 : decode cX9_canTry 62 = .ok (.aload_n 0, 1) := by decide +kernel
theorem dX9_canTry_63 : decode cX9_canTry 63 = .ok (.getfield 23, 3) := by decide +kernel
theorem dX9_canTry_66 : decode cX9_canTry 66 = .ok (.getfield 122, 3) := by decide +kernel
theorem dX9_canTry_69 : decode cX9_canTry 69 = .ok (.iload_n 2, 1) := by decide +kernel
theorem dX9_canTry_70 : decode cX9_canTry 70 = .ok (.invokevirtual 125, 3) := by decide +kernel
theorem dX9_canTry_73 : decode cX9_canTry 73 = .ok (.ireturn, 1) := by decide +kernel
theorem dX9_canTry_74 : decode cX9_canTry 74 = .ok (.aload_n 0, 1) := by decide +kernel
theorem dX9_canTry_75 : decode cX9_canTry 75 = .ok (.getfield 23, 3) := by decide +kernel
theorem dX9_canTry_78 : decode cX9_canTry 78 = .ok (.getfield 162, 3) := by decide +kernel
theorem dX9_canTry_81 : decode cX9_canTry 81 = .ok (.iload_n 2, 1) := by decide +kernel
theorem dX9_canTry_82 : decode cX9_canTry 82 = .ok (.invokevirtual 125, 3) := by decide +kernel
theorem dX9_canTry_85 : decode cX9_canTry 85 = .ok (.ireturn, 1) := by decide +kernel
theorem dX9_canTry_86 : decode cX9_canTry 86 = .ok (.aload_n 0, 1) := by decide +kernel
theorem dX9_canTry_87 : decode cX9_canTry 87 = .ok (.getfield 23, 3) := by decide +kernel
theorem dX9_canTry_90 : decode cX9_canTry 90 = .ok (.getfield 115, 3) := by decide +kernel
theorem dX9_canTry_93 : decode cX9_canTry 93 = .ok (.iload_n 2, 1) := by decide +kernel
theorem dX9_canTry_94 : decode cX9_canTry 94 = .ok (.invokevirtual 125, 3) := by decide +kernel
theorem dX9_canTry_97 : decode cX9_canTry 97 = .ok (.ireturn, 1) := by decide +kernel
theorem dX9_canTry_98 : decode cX9_canTry 98 = .ok (.iconst 0, 1) := by decide +kernel
theorem dX9_canTry_99 : decode cX9_canTry 99 = .ok (.ireturn, 1) := by decide +kernel
theorem dX9_measureTrial_0 : decode cX9_measureTrial 0 = .ok (.aload_n 0, 1) := by decide +kernel
theorem dX9_measureTrial_1 : decode cX9_measureTrial 1 = .ok (.getfield 43, 3) := by decide +kernel
theorem dX9_measureTrial_4 : decode cX9_measureTrial 4 = .ok (.aload_n 0, 1) := by decide +kernel
theorem dX9_measureTrial_5 : decode cX9_measureTrial 5 = .ok (.getfield 33, 3) := by decide +kernel
theorem dX9_measureTrial_8 : decode cX9_measureTrial 8 = .ok (.iload_n 1, 1) := by decide +kernel
theorem dX9_measureTrial_9 : decode cX9_measureTrial 9 = .ok (.invokevirtual 279, 3) := by decide +kernel
theorem dX9_measureTrial_12 : decode cX9_measureTrial 12 = .ok (.aload_n 0, 1) := by decide +kernel
theorem dX9_measureTrial_13 : decode cX9_measureTrial 13 = .ok (.getfield 43, 3) := by decide +kernel
theorem dX9_measureTrial_16 : decode cX9_measureTrial 16 = .ok (.aload_n 0, 1) := by decide +kernel
theorem dX9_measureTrial_17 : decode cX9_measureTrial 17 = .ok (.getfield 33, 3) := by decide +kernel
theorem dX9_measureTrial_20 : decode cX9_measureTrial 20 = .ok (.invokevirtual 376, 3) := by decide +kernel
theorem dX9_measureTrial_23 : decode cX9_measureTrial 23 = .ok (.aload_n 0, 1) := by decide +kernel
theorem dX9_measureTrial_24 : decode cX9_measureTrial 24 = .ok (.getfield 43, 3) := by decide +kernel
theorem dX9_measureTrial_27 : decode cX9_measureTrial 27 = .ok (.aload_n 0, 1) := by decide +kernel
theorem dX9_measureTrial_28 : decode cX9_measureTrial 28 = .ok (.getfield 33, 3) := by decide +kernel
theorem dX9_measureTrial_31 : decode cX9_measureTrial 31 = .ok (.invokevirtual 379, 3) := by decide +kernel
theorem dX9_measureTrial_34 : decode cX9_measureTrial 34 = .ok (.return_, 1) := by decide +kernel
theorem dX9_undo_0 : decode cX9_undo 0 = .ok (.aload_n 0, 1) := by decide +kernel
theorem dX9_undo_1 : decode cX9_undo 1 = .ok (.getfield 72, 3) := by decide +kernel
theorem dX9_undo_4 : decode cX9_undo 4 = .ok (.getfield 208, 3) := by decide +kernel
theorem dX9_undo_7 : decode cX9_undo 7 = .ok (.ifCond .ne 5, 3) := by decide +kernel
theorem dX9_undo_10 : decode cX9_undo 10 = .ok (.iconst (-1), 1) := by decide +kernel
theorem dX9_undo_11 : decode cX9_undo 11 = .ok (.ireturn, 1) := by decide +kernel
theorem dX9_undo_12 : decode cX9_undo 12 = .ok (.aload_n 0, 1) := by decide +kernel
theorem dX9_undo_13 : decode cX9_undo 13 = .ok (.getfield 72, 3) := by decide +kernel
theorem dX9_undo_16 : decode cX9_undo 16 = .ok (.getfield 208, 3) := by decide +kernel
theorem dX9_undo_19 : decode cX9_undo 19 = .ok (.iconst 1, 1) := by decide +kernel
theorem dX9_undo_20 : decode cX9_undo 20 = .ok (.isub, 1) := by decide +kernel
theorem dX9_undo_21 : decode cX9_undo 21 = .ok (.istore_n 1, 1) := by decide +kernel
theorem dX9_undo_22 : decode cX9_undo 22 = .ok (.aload_n 0, 1) := by decide +kernel
theorem dX9_undo_23 : decode cX9_undo 23 = .ok (.getfield 72, 3) := by decide +kernel
theorem dX9_undo_26 : decode cX9_undo 26 = .ok (.iload_n 1, 1) := by decide +kernel
theorem dX9_undo_27 : decode cX9_undo 27 = .ok (.iconst 1, 1) := by decide +kernel
theorem dX9_undo_28 : decode cX9_undo 28 = .ok (.invokevirtual 136, 3) := by decide +kernel
theorem dX9_undo_31 : decode cX9_undo 31 = .ok (.istore_n 2, 1) := by decide +kernel
theorem dX9_undo_32 : decode cX9_undo 32 = .ok (.aload_n 0, 1) := by decide +kernel
theorem dX9_undo_33 : decode cX9_undo 33 = .ok (.getfield 72, 3) := by decide +kernel
theorem dX9_undo_36 : decode cX9_undo 36 = .ok (.iload_n 1, 1) := by decide +kernel
theorem dX9_undo_37 : decode cX9_undo 37 = .ok (.iconst 2, 1) := by decide +kernel
theorem dX9_undo_38 : decode cX9_undo 38 = .ok (.invokevirtual 136, 3) := by decide +kernel
theorem dX9_undo_41 : decode cX9_undo 41 = .ok (.istore_n 3, 1) := by decide +kernel
theorem dX9_undo_42 : decode cX9_undo 42 = .ok (.aload_n 0, 1) := by decide +kernel
theorem dX9_undo_43 : decode cX9_undo 43 = .ok (.getfield 72, 3) := by decide +kernel
theorem dX9_undo_46 : decode cX9_undo 46 = .ok (.iload_n 1, 1) := by decide +kernel
theorem dX9_undo_47 : decode cX9_undo 47 = .ok (.iconst 0, 1) := by decide +kernel
theorem dX9_undo_48 : decode cX9_undo 48 = .ok (.invokevirtual 136, 3) := by decide +kernel
theorem dX9_undo_51 : decode cX9_undo 51 = .ok (.tableswitch 70 0 2 #[25, 38, 54], 25) := by decide +kernel
theorem dX9_undo_76 : decode cX9_undo 76 = .ok (.aload_n 0, 1) := by decide +kernel
theorem dX9_undo_77 : decode cX9_undo 77 = .ok (.getfield 23, 3) := by decide +kernel
theorem dX9_undo_80 : decode cX9_undo 80 = .ok (.getfield 156, 3) := by decide +kernel
theorem dX9_undo_83 : decode cX9_undo 83 = .ok (.invokevirtual 382, 3) := by decide +kernel
theorem dX9_undo_86 : decode cX9_undo 86 = .ok (.goto 74, 3) := by decide +kernel
theorem dX9_undo_89 : decode cX9_undo 89 = .ok (.aload_n 0, 1) := by decide +kernel
theorem dX9_undo_90 : decode cX9_undo 90 = .ok (.getfield 23, 3) := by decide +kernel
theorem dX9_undo_93 : decode cX9_undo 93 = .ok (.getfield 156, 3) := by decide +kernel
theorem dX9_undo_96 : decode cX9_undo 96 = .ok (.iload_n 2, 1) := by decide +kernel
theorem dX9_undo_97 : decode cX9_undo 97 = .ok (.iconst 5, 1) := by decide +kernel
theorem dX9_undo_98 : decode cX9_undo 98 = .ok (.iconst 0, 1) := by decide +kernel
theorem dX9_undo_99 : decode cX9_undo 99 = .ok (.invokevirtual 233, 3) := by decide +kernel
theorem dX9_undo_102 : decode cX9_undo 102 = .ok (.goto 58, 3) := by decide +kernel
theorem dX9_undo_105 : decode cX9_undo 105 = .ok (.aload_n 0, 1) := by decide +kernel
theorem dX9_undo_106 : decode cX9_undo 106 = .ok (.getfield 23, 3) := by decide +kernel
theorem dX9_undo_109 : decode cX9_undo 109 = .ok (.getfield 162, 3) := by decide +kernel
theorem dX9_undo_112 : decode cX9_undo 112 = .ok (.iload_n 2, 1) := by decide +kernel
theorem dX9_undo_113 : decode cX9_undo 113 = .ok (.iconst 3, 1) := by decide +kernel
theorem dX9_undo_114 : decode cX9_undo 114 = .ok (.iload_n 3, 1) := by decide +kernel
theorem dX9_undo_115 : decode cX9_undo 115 = .ok (.invokevirtual 233, 3) := by decide +kernel
theorem dX9_undo_118 : decode cX9_undo 118 = .ok (.goto 42, 3) := by decide +kernel
theorem dX9_undo_121 : decode cX9_undo 121 = .ok (.aload_n 0, 1) := by decide +kernel
theorem dX9_undo_122 : decode cX9_undo 122 = .ok (.getfield 23, 3) := by decide +kernel
theorem dX9_undo_125 : decode cX9_undo 125 = .ok (.getfield 159, 3) := by decide +kernel
theorem dX9_undo_128 : decode cX9_undo 128 = .ok (.iload_n 2, 1) := by decide +kernel
theorem dX9_undo_129 : decode cX9_undo 129 = .ok (.iconst 0, 1) := by decide +kernel
theorem dX9_undo_130 : decode cX9_undo 130 = .ok (.iload_n 3, 1) := by decide +kernel
theorem dX9_undo_131 : decode cX9_undo 131 = .ok (.invokevirtual 233, 3) := by decide +kernel
theorem dX9_undo_134 : decode cX9_undo 134 = .ok (.aload_n 0, 1) := by decide +kernel
theorem dX9_undo_135 : decode cX9_undo 135 = .ok (.getfield 23, 3) := by decide +kernel
theorem dX9_undo_138 : decode cX9_undo 138 = .ok (.iload_n 3, 1) := by decide +kernel
theorem dX9_undo_139 : decode cX9_undo 139 = .ok (.aload_n 0, 1) := by decide +kernel
theorem dX9_undo_140 : decode cX9_undo 140 = .ok (.getfield 72, 3) := by decide +kernel
theorem dX9_undo_143 : decode cX9_undo 143 = .ok (.iload_n 1, 1) := by decide +kernel
theorem dX9_undo_144 : decode cX9_undo 144 = .ok (.iconst 3, 1) := by decide +kernel
theorem dX9_undo_145 : decode cX9_undo 145 = .ok (.invokevirtual 136, 3) := by decide +kernel
theorem dX9_undo_148 : decode cX9_undo 148 = .ok (.aload_n 0, 1) := by decide +kernel
theorem dX9_undo_149 : decode cX9_undo 149 = .ok (.getfield 72, 3) := by decide +kernel
theorem dX9_undo_152 : decode cX9_undo 152 = .ok (.iload_n 1, 1) := by decide +kernel
theorem dX9_undo_153 : decode cX9_undo 153 = .ok (.iconst 4, 1) := by decide +kernel
theorem dX9_undo_154 : decode cX9_undo 154 = .ok (.invokevirtual 136, 3) := by decide +kernel
theorem dX9_undo_157 : decode cX9_undo 157 = .ok (.invokevirtual 237, 3) := by decide +kernel
theorem dX9_undo_160 : decode cX9_undo 160 = .ok (.aload_n 0, 1) := by decide +kernel
theorem dX9_undo_161 : decode cX9_undo 161 = .ok (.getfield 72, 3) := by decide +kernel
theorem dX9_undo_164 : decode cX9_undo 164 = .ok (.invokevirtual 382, 3) := by decide +kernel
theorem dX9_undo_167 : decode cX9_undo 167 = .ok (.aload_n 0, 1) := by decide +kernel
theorem dX9_undo_168 : decode cX9_undo 168 = .ok (.invokevirtual 103, 3) := by decide +kernel
theorem dX9_undo_171 : decode cX9_undo 171 = .ok (.aload_n 0, 1) := by decide +kernel
theorem dX9_undo_172 : decode cX9_undo 172 = .ok (.getfield 72, 3) := by decide +kernel
theorem dX9_undo_175 : decode cX9_undo 175 = .ok (.getfield 208, 3) := by decide +kernel
theorem dX9_undo_178 : decode cX9_undo 178 = .ok (.ireturn, 1) := by decide +kernel
theorem dX9_logged_0 : decode cX9_logged 0 = .ok (.aload_n 0, 1) := by decide +kernel
theorem dX9_logged_1 : decode cX9_logged 1 = .ok (.getfield 72, 3) := by decide +kernel
theorem dX9_logged_4 : decode cX9_logged 4 = .ok (.invokevirtual 385, 3) := by decide +kernel
theorem dX9_logged_7 : decode cX9_logged 7 = .ok (.ifCond .eq 10, 3) := by decide +kernel
theorem dX9_logged_10 : decode cX9_logged 10 = .ok (.aload_n 0, 1) := by decide +kernel
theorem dX9_logged_11 : decode cX9_logged 11 = .ok (.getfield 72, 3) := by decide +kernel
theorem dX9_logged_14 : decode cX9_logged 14 = .ok (.invokevirtual 389, 3) := by decide +kernel
theorem dX9_logged_17 : decode cX9_logged 17 = .ok (.aload_n 0, 1) := by decide +kernel
theorem dX9_logged_18 : decode cX9_logged 18 = .ok (.getfield 72, 3) := by decide +kernel
theorem dX9_logged_21 : decode cX9_logged 21 = .ok (.iload_n 1, 1) := by decide +kernel
theorem dX9_logged_22 : decode cX9_logged 22 = .ok (.iload_n 2, 1) := by decide +kernel
theorem dX9_logged_23 : decode cX9_logged 23 = .ok (.iload_n 3, 1) := by decide +kernel
theorem dX9_logged_24 : decode cX9_logged 24 = .ok (.iload 4, 2) := by decide +kernel
theorem dX9_logged_26 : decode cX9_logged 26 = .ok (.iload 5, 2) := by decide +kernel
theorem dX9_logged_28 : decode cX9_logged 28 = .ok (.invokevirtual 225, 3) := by decide +kernel
theorem dX9_logged_31 : decode cX9_logged 31 = .ok (.pop, 1) := by decide +kernel
theorem dX9_logged_32 : decode cX9_logged 32 = .ok (.aload_n 0, 1) := by decide +kernel
theorem dX9_logged_33 : decode cX9_logged 33 = .ok (.invokevirtual 103, 3) := by decide +kernel
theorem dX9_logged_36 : decode cX9_logged 36 = .ok (.return_, 1) := by decide +kernel
theorem dX9_keep_0 : decode cX9_keep 0 = .ok (.aload_n 0, 1) := by decide +kernel
theorem dX9_keep_1 : decode cX9_keep 1 = .ok (.getfield 30, 3) := by decide +kernel
theorem dX9_keep_4 : decode cX9_keep 4 = .ok (.aload_n 0, 1) := by decide +kernel
theorem dX9_keep_5 : decode cX9_keep 5 = .ok (.getfield 23, 3) := by decide +kernel
theorem dX9_keep_8 : decode cX9_keep 8 = .ok (.invokevirtual 263, 3) := by decide +kernel
theorem dX9_keep_11 : decode cX9_keep 11 = .ok (.aload_n 0, 1) := by decide +kernel
theorem dX9_keep_12 : decode cX9_keep 12 = .ok (.iconst 1, 1) := by decide +kernel
theorem dX9_keep_13 : decode cX9_keep 13 = .ok (.putfield 95, 3) := by decide +kernel
theorem dX9_keep_16 : decode cX9_keep 16 = .ok (.aload_n 0, 1) := by decide +kernel
theorem dX9_keep_17 : decode cX9_keep 17 = .ok (.getfield 23, 3) := by decide +kernel
theorem dX9_keep_20 : decode cX9_keep 20 = .ok (.getfield 240, 3) := by decide +kernel
theorem dX9_keep_23 : decode cX9_keep 23 = .ok (.ireturn, 1) := by decide +kernel
theorem dX9_back_0 : decode cX9_back 0 = .ok (.aload_n 0, 1) := by decide +kernel
theorem dX9_back_1 : decode cX9_back 1 = .ok (.getfield 95, 3) := by decide +kernel
theorem dX9_back_4 : decode cX9_back 4 = .ok (.ifCond .ne 5, 3) := by decide +kernel
theorem dX9_back_7 : decode cX9_back 7 = .ok (.iconst (-1), 1) := by decide +kernel
theorem dX9_back_8 : decode cX9_back 8 = .ok (.ireturn, 1) := by decide +kernel
theorem dX9_back_9 : decode cX9_back 9 = .ok (.aload_n 0, 1) := by decide +kernel
theorem dX9_back_10 : decode cX9_back 10 = .ok (.getfield 23, 3) := by decide +kernel
theorem dX9_back_13 : decode cX9_back 13 = .ok (.aload_n 0, 1) := by decide +kernel
theorem dX9_back_14 : decode cX9_back 14 = .ok (.getfield 30, 3) := by decide +kernel
theorem dX9_back_17 : decode cX9_back 17 = .ok (.invokevirtual 263, 3) := by decide +kernel
theorem dX9_back_20 : decode cX9_back 20 = .ok (.aload_n 0, 1) := by decide +kernel
theorem dX9_back_21 : decode cX9_back 21 = .ok (.getfield 72, 3) := by decide +kernel
theorem dX9_back_24 : decode cX9_back 24 = .ok (.invokevirtual 102, 3) := by decide +kernel
theorem dX9_back_27 : decode cX9_back 27 = .ok (.aload_n 0, 1) := by decide +kernel
theorem dX9_back_28 : decode cX9_back 28 = .ok (.invokevirtual 103, 3) := by decide +kernel
theorem dX9_back_31 : decode cX9_back 31 = .ok (.aload_n 0, 1) := by decide +kernel
theorem dX9_back_32 : decode cX9_back 32 = .ok (.getfield 23, 3) := by decide +kernel
theorem dX9_back_35 : decode cX9_back 35 = .ok (.getfield 240, 3) := by decide +kernel
theorem dX9_back_38 : decode cX9_back 38 = .ok (.ireturn, 1) := by decide +kernel
theorem dX9_count_0 : decode cX9_count 0 = .ok (.iload_n 1, 1) := by decide +kernel
theorem dX9_count_1 : decode cX9_count 1 = .ok (.tableswitch 259 0 15 #[79, 90, 101, 112, 123, 134, 145, 156, 178, 186, 197, 205, 213, 225, 239, 251], 79) := by decide +kernel
theorem dX9_count_80 : decode cX9_count 80 = .ok (.aload_n 0, 1) := by decide +kernel
theorem dX9_count_81 : decode cX9_count 81 = .ok (.getfield 23, 3) := by decide +kernel
theorem dX9_count_84 : decode cX9_count 84 = .ok (.getfield 115, 3) := by decide +kernel
theorem dX9_count_87 : decode cX9_count 87 = .ok (.getfield 208, 3) := by decide +kernel
theorem dX9_count_90 : decode cX9_count 90 = .ok (.ireturn, 1) := by decide +kernel
theorem dX9_count_91 : decode cX9_count 91 = .ok (.aload_n 0, 1) := by decide +kernel
theorem dX9_count_92 : decode cX9_count 92 = .ok (.getfield 23, 3) := by decide +kernel
theorem dX9_count_95 : decode cX9_count 95 = .ok (.getfield 162, 3) := by decide +kernel
theorem dX9_count_98 : decode cX9_count 98 = .ok (.getfield 208, 3) := by decide +kernel
theorem dX9_count_101 : decode cX9_count 101 = .ok (.ireturn, 1) := by decide +kernel
theorem dX9_count_102 : decode cX9_count 102 = .ok (.aload_n 0, 1) := by decide +kernel
theorem dX9_count_103 : decode cX9_count 103 = .ok (.getfield 23, 3) := by decide +kernel
theorem dX9_count_106 : decode cX9_count 106 = .ok (.getfield 122, 3) := by decide +kernel
theorem dX9_count_109 : decode cX9_count 109 = .ok (.getfield 208, 3) := by decide +kernel
theorem dX9_count_112 : decode cX9_count 112 = .ok (.ireturn, 1) := by decide +kernel
theorem dX9_count_113 : decode cX9_count 113 = .ok (.aload_n 0, 1) := by decide +kernel
theorem dX9_count_114 : decode cX9_count 114 = .ok (.getfield 23, 3) := by decide +kernel
theorem dX9_count_117 : decode cX9_count 117 = .ok (.getfield 156, 3) := by decide +kernel
theorem dX9_count_120 : decode cX9_count 120 = .ok (.getfield 208, 3) := by decide +kernel
theorem dX9_count_123 : decode cX9_count 123 = .ok (.ireturn, 1) := by decide +kernel
theorem dX9_count_124 : decode cX9_count 124 = .ok (.aload_n 0, 1) := by decide +kernel
theorem dX9_count_125 : decode cX9_count 125 = .ok (.getfield 23, 3) := by decide +kernel
theorem dX9_count_128 : decode cX9_count 128 = .ok (.getfield 159, 3) := by decide +kernel
theorem dX9_count_131 : decode cX9_count 131 = .ok (.getfield 208, 3) := by decide +kernel
theorem dX9_count_134 : decode cX9_count 134 = .ok (.ireturn, 1) := by decide +kernel
theorem dX9_count_135 : decode cX9_count 135 = .ok (.aload_n 0, 1) := by decide +kernel
theorem dX9_count_136 : decode cX9_count 136 = .ok (.getfield 23, 3) := by decide +kernel
theorem dX9_count_139 : decode cX9_count 139 = .ok (.getfield 254, 3) := by decide +kernel
theorem dX9_count_142 : decode cX9_count 142 = .ok (.getfield 208, 3) := by decide +kernel
theorem dX9_count_145 : decode cX9_count 145 = .ok (.ireturn, 1) := by decide +kernel
theorem dX9_count_146 : decode cX9_count 146 = .ok (.aload_n 0, 1) := by decide +kernel
theorem dX9_count_147 : decode cX9_count 147 = .ok (.getfield 23, 3) := by decide +kernel
theorem dX9_count_150 : decode cX9_count 150 = .ok (.invokevirtual 286, 3) := by decide +kernel
theorem dX9_count_153 : decode cX9_count 153 = .ok (.invokestatic 267, 3) := by decide +kernel
theorem dX9_count_156 : decode cX9_count 156 = .ok (.ireturn, 1) := by decide +kernel
theorem dX9_count_157 : decode cX9_count 157 = .ok (.aload_n 0, 1) := by decide +kernel
theorem dX9_count_158 : decode cX9_count 158 = .ok (.getfield 23, 3) := by decide +kernel
theorem dX9_count_161 : decode cX9_count 161 = .ok (.getfield 175, 3) := by decide +kernel
theorem dX9_count_164 : decode cX9_count 164 = .ok (.getfield 392, 3) := by decide +kernel
theorem dX9_count_167 : decode cX9_count 167 = .ok (.aload_n 0, 1) := by decide +kernel
theorem dX9_count_168 : decode cX9_count 168 = .ok (.getfield 23, 3) := by decide +kernel
theorem dX9_count_171 : decode cX9_count 171 = .ok (.getfield 183, 3) := by decide +kernel
theorem dX9_count_174 : decode cX9_count 174 = .ok (.getfield 392, 3) := by decide +kernel
theorem dX9_count_177 : decode cX9_count 177 = .ok (.iadd, 1) := by decide +kernel
theorem dX9_count_178 : decode cX9_count 178 = .ok (.ireturn, 1) := by decide +kernel
theorem dX9_count_179 : decode cX9_count 179 = .ok (.aload_n 0, 1) := by decide +kernel
theorem dX9_count_180 : decode cX9_count 180 = .ok (.getfield 23, 3) := by decide +kernel
theorem dX9_count_183 : decode cX9_count 183 = .ok (.getfield 240, 3) := by decide +kernel
theorem dX9_count_186 : decode cX9_count 186 = .ok (.ireturn, 1) := by decide +kernel
theorem dX9_count_187 : decode cX9_count 187 = .ok (.aload_n 0, 1) := by decide +kernel
theorem dX9_count_188 : decode cX9_count 188 = .ok (.getfield 63, 3) := by decide +kernel
theorem dX9_count_191 : decode cX9_count 191 = .ok (.getfield 306, 3) := by decide +kernel
theorem dX9_count_194 : decode cX9_count 194 = .ok (.getfield 208, 3) := by decide +kernel
theorem dX9_count_197 : decode cX9_count 197 = .ok (.ireturn, 1) := by decide +kernel
theorem dX9_count_198 : decode cX9_count 198 = .ok (.aload_n 0, 1) := by decide +kernel
theorem dX9_count_199 : decode cX9_count 199 = .ok (.getfield 63, 3) := by decide +kernel
theorem dX9_count_202 : decode cX9_count 202 = .ok (.invokevirtual 393, 3) := by decide +kernel
theorem dX9_count_205 : decode cX9_count 205 = .ok (.ireturn, 1) := by decide +kernel
theorem dX9_count_206 : decode cX9_count 206 = .ok (.aload_n 0, 1) := by decide +kernel
theorem dX9_count_207 : decode cX9_count 207 = .ok (.getfield 72, 3) := by decide +kernel
theorem dX9_count_210 : decode cX9_count 210 = .ok (.getfield 208, 3) := by decide +kernel
theorem dX9_count_213 : decode cX9_count 213 = .ok (.ireturn, 1) := by decide +kernel
theorem dX9_count_214 : decode cX9_count 214 = .ok (.aload_n 0, 1) := by decide +kernel
theorem dX9_count_215 : decode cX9_count 215 = .ok (.getfield 23, 3) := by decide +kernel
theorem dX9_count_218 : decode cX9_count 218 = .ok (.getfield 162, 3) := by decide +kernel
theorem dX9_count_221 : decode cX9_count 221 = .ok (.iconst 3, 1) := by decide +kernel
theorem dX9_count_222 : decode cX9_count 222 = .ok (.invokevirtual 396, 3) := by decide +kernel
theorem dX9_count_225 : decode cX9_count 225 = .ok (.ireturn, 1) := by decide +kernel
theorem dX9_count_226 : decode cX9_count 226 = .ok (.aload_n 0, 1) := by decide +kernel
theorem dX9_count_227 : decode cX9_count 227 = .ok (.invokevirtual 139, 3) := by decide +kernel
theorem dX9_count_230 : decode cX9_count 230 = .ok (.aload_n 0, 1) := by decide +kernel
theorem dX9_count_231 : decode cX9_count 231 = .ok (.getfield 23, 3) := by decide +kernel
theorem dX9_count_234 : decode cX9_count 234 = .ok (.iconst (-1), 1) := by decide +kernel
theorem dX9_count_235 : decode cX9_count 235 = .ok (.iconst (-1), 1) := by decide +kernel
theorem dX9_count_236 : decode cX9_count 236 = .ok (.invokevirtual 147, 3) := by decide +kernel
theorem dX9_count_239 : decode cX9_count 239 = .ok (.ireturn, 1) := by decide +kernel
theorem dX9_count_240 : decode cX9_count 240 = .ok (.aload_n 0, 1) := by decide +kernel
theorem dX9_count_241 : decode cX9_count 241 = .ok (.getfield 23, 3) := by decide +kernel
theorem dX9_count_244 : decode cX9_count 244 = .ok (.getfield 122, 3) := by decide +kernel
theorem dX9_count_247 : decode cX9_count 247 = .ok (.iconst 1, 1) := by decide +kernel
theorem dX9_count_248 : decode cX9_count 248 = .ok (.invokevirtual 396, 3) := by decide +kernel
theorem dX9_count_251 : decode cX9_count 251 = .ok (.ireturn, 1) := by decide +kernel
theorem dX9_count_252 : decode cX9_count 252 = .ok (.aload_n 0, 1) := by decide +kernel
theorem dX9_count_253 : decode cX9_count 253 = .ok (.invokevirtual 139, 3) := by decide +kernel
theorem dX9_count_256 : decode cX9_count 256 = .ok (.invokevirtual 349, 3) := by decide +kernel
theorem dX9_count_259 : decode cX9_count 259 = .ok (.ireturn, 1) := by decide +kernel
theorem dX9_count_260 : decode cX9_count 260 = .ok (.iconst (-1), 1) := by decide +kernel
theorem dX9_count_261 : decode cX9_count 261 = .ok (.ireturn, 1) := by decide +kernel
theorem dX9_changed_0 : decode cX9_changed 0 = .ok (.aload_n 0, 1) := by decide +kernel
theorem dX9_changed_1 : decode cX9_changed 1 = .ok (.iconst 0, 1) := by decide +kernel
theorem dX9_changed_2 : decode cX9_changed 2 = .ok (.putfield 399, 3) := by decide +kernel
theorem dX9_changed_5 : decode cX9_changed 5 = .ok (.aload_n 0, 1) := by decide +kernel
theorem dX9_changed_6 : decode cX9_changed 6 = .ok (.iconst 0, 1) := by decide +kernel
theorem dX9_changed_7 : decode cX9_changed 7 = .ok (.putfield 402, 3) := by decide +kernel
theorem dX9_changed_10 : decode cX9_changed 10 = .ok (.return_, 1) := by decide +kernel
theorem dX9_freshAir_0 : decode cX9_freshAir 0 = .ok (.aload_n 0, 1) := by decide +kernel
theorem dX9_freshAir_1 : decode cX9_freshAir 1 = .ok (.getfield 399, 3) := by decide +kernel
theorem dX9_freshAir_4 : decode cX9_freshAir 4 = .ok (.ifCond .ne 42, 3) := by decide +kernel
theorem dX9_freshAir_7 : decode cX9_freshAir 7 = .ok (.aload_n 0, 1) := by decide +kernel
theorem dX9_freshAir_8 : decode cX9_freshAir 8 = .ok (.getfield 39, 3) := by decide +kernel
theorem dX9_freshAir_11 : decode cX9_freshAir 11 = .ok (.aload_n 0, 1) := by decide +kernel
theorem dX9_freshAir_12 : decode cX9_freshAir 12 = .ok (.getfield 23, 3) := by decide +kernel
theorem dX9_freshAir_15 : decode cX9_freshAir 15 = .ok (.iconst (-1), 1) := by decide +kernel
theorem dX9_freshAir_16 : decode cX9_freshAir 16 = .ok (.invokevirtual 279, 3) := by decide +kernel
theorem dX9_freshAir_19 : decode cX9_freshAir 19 = .ok (.aload_n 0, 1) := by decide +kernel
theorem dX9_freshAir_20 : decode cX9_freshAir 20 = .ok (.getfield 39, 3) := by decide +kernel
theorem dX9_freshAir_23 : decode cX9_freshAir 23 = .ok (.aload_n 0, 1) := by decide +kernel
theorem dX9_freshAir_24 : decode cX9_freshAir 24 = .ok (.getfield 23, 3) := by decide +kernel
theorem dX9_freshAir_27 : decode cX9_freshAir 27 = .ok (.invokevirtual 376, 3) := by decide +kernel
theorem dX9_freshAir_30 : decode cX9_freshAir 30 = .ok (.aload_n 0, 1) := by decide +kernel
theorem dX9_freshAir_31 : decode cX9_freshAir 31 = .ok (.getfield 39, 3) := by decide +kernel
theorem dX9_freshAir_34 : decode cX9_freshAir 34 = .ok (.aload_n 0, 1) := by decide +kernel
theorem dX9_freshAir_35 : decode cX9_freshAir 35 = .ok (.getfield 23, 3) := by decide +kernel
theorem dX9_freshAir_38 : decode cX9_freshAir 38 = .ok (.invokevirtual 379, 3) := by decide +kernel
theorem dX9_freshAir_41 : decode cX9_freshAir 41 = .ok (.aload_n 0, 1) := by decide +kernel
theorem dX9_freshAir_42 : decode cX9_freshAir 42 = .ok (.iconst 1, 1) := by decide +kernel
theorem dX9_freshAir_43 : decode cX9_freshAir 43 = .ok (.putfield 399, 3) := by decide +kernel
theorem dX9_freshAir_46 : decode cX9_freshAir 46 = .ok (.aload_n 0, 1) := by decide +kernel
theorem dX9_freshAir_47 : decode cX9_freshAir 47 = .ok (.getfield 39, 3) := by decide +kernel
theorem dX9_freshAir_50 : decode cX9_freshAir 50 = .ok (.areturn, 1) := by decide +kernel
theorem dX9_freshPieces_0 : decode cX9_freshPieces 0 = .ok (.aload_n 0, 1) := by decide +kernel
theorem dX9_freshPieces_1 : decode cX9_freshPieces 1 = .ok (.getfield 402, 3) := by decide +kernel
theorem dX9_freshPieces_4 : decode cX9_freshPieces 4 = .ok (.ifCond .ne 54, 3) := by decide +kernel
theorem dX9_freshPieces_7 : decode cX9_freshPieces 7 = .ok (.aload_n 0, 1) := by decide +kernel
theorem dX9_freshPieces_8 : decode cX9_freshPieces 8 = .ok (.invokevirtual 139, 3) := by decide +kernel
theorem dX9_freshPieces_11 : decode cX9_freshPieces 11 = .ok (.pop, 1) := by decide +kernel
theorem dX9_freshPieces_12 : decode cX9_freshPieces 12 = .ok (.aload_n 0, 1) := by decide +kernel
theorem dX9_freshPieces_13 : decode cX9_freshPieces 13 = .ok (.getfield 49, 3) := by decide +kernel
theorem dX9_freshPieces_16 : decode cX9_freshPieces 16 = .ok (.aload_n 0, 1) := by decide +kernel
theorem dX9_freshPieces_17 : decode cX9_freshPieces 17 = .ok (.getfield 23, 3) := by decide +kernel
theorem dX9_freshPieces_20 : decode cX9_freshPieces 20 = .ok (.aload_n 0, 1) := by decide +kernel
theorem dX9_freshPieces_21 : decode cX9_freshPieces 21 = .ok (.getfield 39, 3) := by decide +kernel
theorem dX9_freshPieces_24 : decode cX9_freshPieces 24 = .ok (.invokevirtual 405, 3) := by decide +kernel
theorem dX9_freshPieces_27 : decode cX9_freshPieces 27 = .ok (.aload_n 0, 1) := by decide +kernel
theorem dX9_freshPieces_28 : decode cX9_freshPieces 28 = .ok (.getfield 49, 3) := by decide +kernel
theorem dX9_freshPieces_31 : decode cX9_freshPieces 31 = .ok (.aload_n 0, 1) := by decide +kernel
theorem dX9_freshPieces_32 : decode cX9_freshPieces 32 = .ok (.getfield 23, 3) := by decide +kernel
theorem dX9_freshPieces_35 : decode cX9_freshPieces 35 = .ok (.invokevirtual 408, 3) := by decide +kernel
theorem dX9_freshPieces_38 : decode cX9_freshPieces 38 = .ok (.aload_n 0, 1) := by decide +kernel
theorem dX9_freshPieces_39 : decode cX9_freshPieces 39 = .ok (.getfield 49, 3) := by decide +kernel
theorem dX9_freshPieces_42 : decode cX9_freshPieces 42 = .ok (.aload_n 0, 1) := by decide +kernel
theorem dX9_freshPieces_43 : decode cX9_freshPieces 43 = .ok (.getfield 23, 3) := by decide +kernel
theorem dX9_freshPieces_46 : decode cX9_freshPieces 46 = .ok (.aload_n 0, 1) := by decide +kernel
theorem dX9_freshPieces_47 : decode cX9_freshPieces 47 = .ok (.getfield 39, 3) := by decide +kernel
theorem dX9_freshPieces_50 : decode cX9_freshPieces 50 = .ok (.invokevirtual 411, 3) := by decide +kernel
theorem dX9_freshPieces_53 : decode cX9_freshPieces 53 = .ok (.aload_n 0, 1) := by decide +kernel
theorem dX9_freshPieces_54 : decode cX9_freshPieces 54 = .ok (.iconst 1, 1) := by decide +kernel
theorem dX9_freshPieces_55 : decode cX9_freshPieces 55 = .ok (.putfield 402, 3) := by decide +kernel
theorem dX9_freshPieces_58 : decode cX9_freshPieces 58 = .ok (.aload_n 0, 1) := by decide +kernel
theorem dX9_freshPieces_59 : decode cX9_freshPieces 59 = .ok (.getfield 49, 3) := by decide +kernel
theorem dX9_freshPieces_62 : decode cX9_freshPieces 62 = .ok (.areturn, 1) := by decide +kernel
theorem dX9_isMinute_0 : decode cX9_isMinute 0 = .ok (.iload_n 0, 1) := by decide +kernel
theorem dX9_isMinute_1 : decode cX9_isMinute 1 = .ok (.ifCond .lt 13, 3) := by decide +kernel
theorem dX9_isMinute_4 : decode cX9_isMinute 4 = .ok (.iload_n 0, 1) := by decide +kernel
theorem dX9_isMinute_5 : decode cX9_isMinute 5 = .ok (.bipush 48, 2) := by decide +kernel
theorem dX9_isMinute_7 : decode cX9_isMinute 7 = .ok (.if_icmp .ge 7, 3) := by decide +kernel
theorem dX9_isMinute_10 : decode cX9_isMinute 10 = .ok (.iconst 1, 1) := by decide +kernel
theorem dX9_isMinute_11 : decode cX9_isMinute 11 = .ok (.goto 4, 3) := by decide +kernel
theorem dX9_isMinute_14 : decode cX9_isMinute 14 = .ok (.iconst 0, 1) := by decide +kernel
theorem dX9_isMinute_15 : decode cX9_isMinute 15 = .ok (.ireturn, 1) := by decide +kernel
theorem dX10_init_0 : decode cX10_init 0 = .ok (.aload_n 0, 1) := by decide +kernel
theorem dX10_init_1 : decode cX10_init 1 = .ok (.invokespecial 1, 3) := by decide +kernel
theorem dX10_init_4 : decode cX10_init 4 = .ok (.aload_n 0, 1) := by decide +kernel
theorem dX10_init_5 : decode cX10_init 5 = .ok (.sipush 700, 3) := by decide +kernel
theorem dX10_init_8 : decode cX10_init 8 = .ok (.newarray .int, 2) := by decide +kernel
theorem dX10_init_10 : decode cX10_init 10 = .ok (.putfield 7, 3) := by decide +kernel
theorem dX10_init_13 : decode cX10_init 13 = .ok (.aload_n 0, 1) := by decide +kernel
theorem dX10_init_14 : decode cX10_init 14 = .ok (.bipush 22, 2) := by decide +kernel
theorem dX10_init_16 : decode cX10_init 16 = .ok (.newarray .int, 2) := by decide +kernel
theorem dX10_init_18 : decode cX10_init 18 = .ok (.dup, 1) := by decide +kernel
theorem dX10_init_19 : decode cX10_init 19 = .ok (.iconst 0, 1) := by decide +kernel
theorem dX10_init_20 : decode cX10_init 20 = .ok (.iconst 0, 1) := by decide +kernel
theorem dX10_init_21 : decode cX10_init 21 = .ok (.iastore, 1) := by decide +kernel
theorem dX10_init_22 : decode cX10_init 22 = .ok (.dup, 1) := by decide +kernel
theorem dX10_init_23 : decode cX10_init 23 = .ok (.iconst 1, 1) := by decide +kernel
theorem dX10_init_24 : decode cX10_init 24 = .ok (.iconst 0, 1) := by decide +kernel
theorem dX10_init_25 : decode cX10_init 25 = .ok (.iastore, 1) := by decide +kernel
theorem dX10_init_26 : decode cX10_init 26 = .ok (.dup, 1) := by decide +kernel
theorem dX10_init_27 : decode cX10_init 27 = .ok (.iconst 2, 1) := by decide +kernel
theorem dX10_init_28 : decode cX10_init 28 = .ok (.iconst 0, 1) := by decide +kernel
theorem dX10_init_29 : decode cX10_init 29 = .ok (.iastore, 1) := by decide +kernel
theorem dX10_init_30 : decode cX10_init 30 = .ok (.dup, 1) := by decide +kernel
theorem dX10_init_31 : decode cX10_init 31 = .ok (.iconst 3, 1) := by decide +kernel
theorem dX10_init_32 : decode cX10_init 32 = .ok (.iconst 0, 1) := by decide +kernel
theorem dX10_init_33 : decode cX10_init 33 = .ok (.iastore, 1) := by decide +kernel
theorem dX10_init_34 : decode cX10_init 34 = .ok (.dup, 1) := by decide +kernel
theorem dX10_init_35 : decode cX10_init 35 = .ok (.iconst 4, 1) := by decide +kernel
theorem dX10_init_36 : decode cX10_init 36 = .ok (.iconst 0, 1) := by decide +kernel
theorem dX10_init_37 : decode cX10_init 37 = .ok (.iastore, 1) := by decide +kernel
theorem dX10_init_38 : decode cX10_init 38 = .ok (.dup, 1) := by decide +kernel
theorem dX10_init_39 : decode cX10_init 39 = .ok (.iconst 5, 1) := by decide +kernel
theorem dX10_init_40 : decode cX10_init 40 = .ok (.iconst 0, 1) := by decide +kernel
theorem dX10_init_41 : decode cX10_init 41 = .ok (.iastore, 1) := by decide +kernel
theorem dX10_init_42 : decode cX10_init 42 = .ok (.dup, 1) := by decide +kernel
theorem dX10_init_43 : decode cX10_init 43 = .ok (.bipush 6, 2) := by decide +kernel
theorem dX10_init_45 : decode cX10_init 45 = .ok (.iconst 0, 1) := by decide +kernel
theorem dX10_init_46 : decode cX10_init 46 = .ok (.iastore, 1) := by decide +kernel
theorem dX10_init_47 : decode cX10_init 47 = .ok (.dup, 1) := by decide +kernel
theorem dX10_init_48 : decode cX10_init 48 = .ok (.bipush 7, 2) := by decide +kernel
theorem dX10_init_50 : decode cX10_init 50 = .ok (.iconst 5, 1) := by decide +kernel
theorem dX10_init_51 : decode cX10_init 51 = .ok (.iastore, 1) := by decide +kernel
theorem dX10_init_52 : decode cX10_init 52 = .ok (.dup, 1) := by decide +kernel
theorem dX10_init_53 : decode cX10_init 53 = .ok (.bipush 8, 2) := by decide +kernel
theorem dX10_init_55 : decode cX10_init 55 = .ok (.iconst 1, 1) := by decide +kernel
theorem dX10_init_56 : decode cX10_init 56 = .ok (.iastore, 1) := by decide +kernel
theorem dX10_init_57 : decode cX10_init 57 = .ok (.dup, 1) := by decide +kernel
theorem dX10_init_58 : decode cX10_init 58 = .ok (.bipush 9, 2) := by decide +kernel
theorem dX10_init_60 : decode cX10_init 60 = .ok (.iconst 0, 1) := by decide +kernel
theorem dX10_init_61 : decode cX10_init 61 = .ok (.iastore, 1) := by decide +kernel
theorem dX10_init_62 : decode cX10_init 62 = .ok (.dup, 1) := by decide +kernel
theorem dX10_init_63 : decode cX10_init 63 = .ok (.bipush 10, 2) := by decide +kernel
theorem dX10_init_65 : decode cX10_init 65 = .ok (.iconst 0, 1) := by decide +kernel
theorem dX10_init_66 : decode cX10_init 66 = .ok (.iastore, 1) := by decide +kernel
theorem dX10_init_67 : decode cX10_init 67 = .ok (.dup, 1) := by decide +kernel
theorem dX10_init_68 : decode cX10_init 68 = .ok (.bipush 11, 2) := by decide +kernel
theorem dX10_init_70 : decode cX10_init 70 = .ok (.iconst 0, 1) := by decide +kernel
theorem dX10_init_71 : decode cX10_init 71 = .ok (.iastore, 1) := by decide +kernel
theorem dX10_init_72 : decode cX10_init 72 = .ok (.dup, 1) := by decide +kernel
theorem dX10_init_73 : decode cX10_init 73 = .ok (.bipush 12, 2) := by decide +kernel
theorem dX10_init_75 : decode cX10_init 75 = .ok (.iconst 0, 1) := by decide +kernel
theorem dX10_init_76 : decode cX10_init 76 = .ok (.iastore, 1) := by decide +kernel
theorem dX10_init_77 : decode cX10_init 77 = .ok (.dup, 1) := by decide +kernel
theorem dX10_init_78 : decode cX10_init 78 = .ok (.bipush 13, 2) := by decide +kernel
theorem dX10_init_80 : decode cX10_init 80 = .ok (.iconst 0, 1) := by decide +kernel
theorem dX10_init_81 : decode cX10_init 81 = .ok (.iastore, 1) := by decide +kernel
theorem dX10_init_82 : decode cX10_init 82 = .ok (.dup, 1) := by decide +kernel
theorem dX10_init_83 : decode cX10_init 83 = .ok (.bipush 14, 2) := by decide +kernel
theorem dX10_init_85 : decode cX10_init 85 = .ok (.iconst 0, 1) := by decide +kernel
theorem dX10_init_86 : decode cX10_init 86 = .ok (.iastore, 1) := by decide +kernel
theorem dX10_init_87 : decode cX10_init 87 = .ok (.dup, 1) := by decide +kernel
theorem dX10_init_88 : decode cX10_init 88 = .ok (.bipush 15, 2) := by decide +kernel
theorem dX10_init_90 : decode cX10_init 90 = .ok (.iconst 0, 1) := by decide +kernel
theorem dX10_init_91 : decode cX10_init 91 = .ok (.iastore, 1) := by decide +kernel
theorem dX10_init_92 : decode cX10_init 92 = .ok (.dup, 1) := by decide +kernel
theorem dX10_init_93 : decode cX10_init 93 = .ok (.bipush 16, 2) := by decide +kernel
theorem dX10_init_95 : decode cX10_init 95 = .ok (.iconst 0, 1) := by decide +kernel
theorem dX10_init_96 : decode cX10_init 96 = .ok (.iastore, 1) := by decide +kernel
theorem dX10_init_97 : decode cX10_init 97 = .ok (.dup, 1) := by decide +kernel
theorem dX10_init_98 : decode cX10_init 98 = .ok (.bipush 17, 2) := by decide +kernel
theorem dX10_init_100 : decode cX10_init 100 = .ok (.iconst 0, 1) := by decide +kernel
theorem dX10_init_101 : decode cX10_init 101 = .ok (.iastore, 1) := by decide +kernel
theorem dX10_init_102 : decode cX10_init 102 = .ok (.dup, 1) := by decide +kernel
theorem dX10_init_103 : decode cX10_init 103 = .ok (.bipush 18, 2) := by decide +kernel
theorem dX10_init_105 : decode cX10_init 105 = .ok (.iconst 5, 1) := by decide +kernel
theorem dX10_init_106 : decode cX10_init 106 = .ok (.iastore, 1) := by decide +kernel
theorem dX10_init_107 : decode cX10_init 107 = .ok (.dup, 1) := by decide +kernel
theorem dX10_init_108 : decode cX10_init 108 = .ok (.bipush 19, 2) := by decide +kernel
theorem dX10_init_110 : decode cX10_init 110 = .ok (.iconst 1, 1) := by decide +kernel
theorem dX10_init_111 : decode cX10_init 111 = .ok (.iastore, 1) := by decide +kernel
theorem dX10_init_112 : decode cX10_init 112 = .ok (.dup, 1) := by decide +kernel
theorem dX10_init_113 : decode cX10_init 113 = .ok (.bipush 20, 2) := by decide +kernel
theorem dX10_init_115 : decode cX10_init 115 = .ok (.iconst 0, 1) := by decide +kernel
theorem dX10_init_116 : decode cX10_init 116 = .ok (.iastore, 1) := by decide +kernel
theorem dX10_init_117 : decode cX10_init 117 = .ok (.dup, 1) := by decide +kernel
theorem dX10_init_118 : decode cX10_init 118 = .ok (.bipush 21, 2) := by decide +kernel
theorem dX10_init_120 : decode cX10_init 120 = .ok (.iconst 0, 1) := by decide +kernel
theorem dX10_init_121 : decode cX10_init 121 = .ok (.iastore, 1) := by decide +kernel
theorem dX10_init_122 : decode cX10_init 122 = .ok (.putfield 13, 3) := by decide +kernel
theorem dX10_init_125 : decode cX10_init 125 = .ok (.aload_n 0, 1) := by decide +kernel
theorem dX10_init_126 : decode cX10_init 126 = .ok (.bipush 12, 2) := by decide +kernel
theorem dX10_init_128 : decode cX10_init 128 = .ok (.newarray .int, 2) := by decide +kernel
theorem dX10_init_130 : decode cX10_init 130 = .ok (.putfield 16, 3) := by decide +kernel
theorem dX10_init_133 : decode cX10_init 133 = .ok (.aload_n 0, 1) := by decide +kernel
theorem dX10_init_134 : decode cX10_init 134 = .ok (.bipush 18, 2) := by decide +kernel
theorem dX10_init_136 : decode cX10_init 136 = .ok (.newarray .int, 2) := by decide +kernel
theorem dX10_init_138 : decode cX10_init 138 = .ok (.putfield 19, 3) := by decide +kernel
theorem dX10_init_141 : decode cX10_init 141 = .ok (.aload_n 0, 1) := by decide +kernel
theorem dX10_init_142 : decode cX10_init 142 = .ok (.bipush 18, 2) := by decide +kernel
theorem dX10_init_144 : decode cX10_init 144 = .ok (.newarray .int, 2) := by decide +kernel
theorem dX10_init_146 : decode cX10_init 146 = .ok (.putfield 22, 3) := by decide +kernel
theorem dX10_init_149 : decode cX10_init 149 = .ok (.aload_n 0, 1) := by decide +kernel
theorem dX10_init_150 : decode cX10_init 150 = .ok (.bipush 18, 2) := by decide +kernel
theorem dX10_init_152 : decode cX10_init 152 = .ok (.newarray .int, 2) := by decide +kernel
theorem dX10_init_154 : decode cX10_init 154 = .ok (.putfield 25, 3) := by decide +kernel
theorem dX10_init_157 : decode cX10_init 157 = .ok (.aload_n 0, 1) := by decide +kernel
theorem dX10_init_158 : decode cX10_init 158 = .ok (.bipush 8, 2) := by decide +kernel
theorem dX10_init_160 : decode cX10_init 160 = .ok (.newarray .int, 2) := by decide +kernel
theorem dX10_init_162 : decode cX10_init 162 = .ok (.putfield 28, 3) := by decide +kernel
theorem dX10_init_165 : decode cX10_init 165 = .ok (.aload_n 0, 1) := by decide +kernel
theorem dX10_init_166 : decode cX10_init 166 = .ok (.bipush 8, 2) := by decide +kernel
theorem dX10_init_168 : decode cX10_init 168 = .ok (.newarray .int, 2) := by decide +kernel
theorem dX10_init_170 : decode cX10_init 170 = .ok (.putfield 31, 3) := by decide +kernel
theorem dX10_init_173 : decode cX10_init 173 = .ok (.aload_n 0, 1) := by decide +kernel
theorem dX10_init_174 : decode cX10_init 174 = .ok (.bipush 8, 2) := by decide +kernel
theorem dX10_init_176 : decode cX10_init 176 = .ok (.newarray .int, 2) := by decide +kernel
theorem dX10_init_178 : decode cX10_init 178 = .ok (.putfield 34, 3) := by decide +kernel
theorem dX10_init_181 : decode cX10_init 181 = .ok (.aload_n 0, 1) := by decide +kernel
theorem dX10_init_182 : decode cX10_init 182 = .ok (.bipush 16, 2) := by decide +kernel
theorem dX10_init_184 : decode cX10_init 184 = .ok (.newarray .int, 2) := by decide +kernel
theorem dX10_init_186 : decode cX10_init 186 = .ok (.putfield 37, 3) := by decide +kernel
theorem dX10_init_189 : decode cX10_init 189 = .ok (.aload_n 0, 1) := by decide +kernel
theorem dX10_init_190 : decode cX10_init 190 = .ok (.bipush 16, 2) := by decide +kernel
theorem dX10_init_192 : decode cX10_init 192 = .ok (.newarray .int, 2) := by decide +kernel
theorem dX10_init_194 : decode cX10_init 194 = .ok (.putfield 40, 3) := by decide +kernel
theorem dX10_init_197 : decode cX10_init 197 = .ok (.aload_n 0, 1) := by decide +kernel
theorem dX10_init_198 : decode cX10_init 198 = .ok (.bipush 16, 2) := by decide +kernel
theorem dX10_init_200 : decode cX10_init 200 = .ok (.newarray .int, 2) := by decide +kernel
theorem dX10_init_202 : decode cX10_init 202 = .ok (.putfield 43, 3) := by decide +kernel
theorem dX10_init_205 : decode cX10_init 205 = .ok (.aload_n 0, 1) := by decide +kernel
theorem dX10_init_206 : decode cX10_init 206 = .ok (.bipush 16, 2) := by decide +kernel
theorem dX10_init_208 : decode cX10_init 208 = .ok (.newarray .int, 2) := by decide +kernel
theorem dX10_init_210 : decode cX10_init 210 = .ok (.putfield 46, 3) := by decide +kernel
theorem dX10_init_213 : decode cX10_init 213 = .ok (.aload_n 0, 1) := by decide +kernel
theorem dX10_init_214 : decode cX10_init 214 = .ok (.bipush 16, 2) := by decide +kernel
theorem dX10_init_216 : decode cX10_init 216 = .ok (.newarray .int, 2) := by decide +kernel
theorem dX10_init_218 : decode cX10_init 218 = .ok (.putfield 49, 3) := by decide +kernel
theorem dX10_init_221 : decode cX10_init 221 = .ok (.aload_n 0, 1) := by decide +kernel
theorem dX10_init_222 : decode cX10_init 222 = .ok (.bipush 16, 2) := by decide +kernel
theorem dX10_init_224 : decode cX10_init 224 = .ok (.newarray .int, 2) := by decide +kernel
theorem dX10_init_226 : decode cX10_init 226 = .ok (.putfield 52, 3) := by decide +kernel
theorem dX10_init_229 : decode cX10_init 229 = .ok (.aload_n 0, 1) := by decide +kernel
theorem dX10_init_230 : decode cX10_init 230 = .ok (.bipush 16, 2) := by decide +kernel
theorem dX10_init_232 : decode cX10_init 232 = .ok (.newarray .int, 2) := by decide +kernel
theorem dX10_init_234 : decode cX10_init 234 = .ok (.putfield 55, 3) := by decide +kernel
theorem dX10_init_237 : decode cX10_init 237 = .ok (.aload_n 0, 1) := by decide +kernel
theorem dX10_init_238 : decode cX10_init 238 = .ok (.bipush 16, 2) := by decide +kernel
theorem dX10_init_240 : decode cX10_init 240 = .ok (.newarray .int, 2) := by decide +kernel
theorem dX10_init_242 : decode cX10_init 242 = .ok (.putfield 58, 3) := by decide +kernel
theorem dX10_init_245 : decode cX10_init 245 = .ok (.aload_n 0, 1) := by decide +kernel
theorem dX10_init_246 : decode cX10_init 246 = .ok (.bipush 16, 2) := by decide +kernel
theorem dX10_init_248 : decode cX10_init 248 = .ok (.newarray .int, 2) := by decide +kernel
theorem dX10_init_250 : decode cX10_init 250 = .ok (.putfield 61, 3) := by decide +kernel
theorem dX10_init_253 : decode cX10_init 253 = .ok (.aload_n 0, 1) := by decide +kernel
theorem dX10_init_254 : decode cX10_init 254 = .ok (.bipush 12, 2) := by decide +kernel
theorem dX10_init_256 : decode cX10_init 256 = .ok (.newarray .int, 2) := by decide +kernel
theorem dX10_init_258 : decode cX10_init 258 = .ok (.putfield 64, 3) := by decide +kernel
theorem dX10_init_261 : decode cX10_init 261 = .ok (.aload_n 0, 1) := by decide +kernel
theorem dX10_init_262 : decode cX10_init 262 = .ok (.bipush 12, 2) := by decide +kernel
theorem dX10_init_264 : decode cX10_init 264 = .ok (.newarray .int, 2) := by decide +kernel
theorem dX10_init_266 : decode cX10_init 266 = .ok (.putfield 67, 3) := by decide +kernel
theorem dX10_init_269 : decode cX10_init 269 = .ok (.aload_n 0, 1) := by decide +kernel
theorem dX10_init_270 : decode cX10_init 270 = .ok (.bipush 12, 2) := by decide +kernel
theorem dX10_init_272 : decode cX10_init 272 = .ok (.newarray .int, 2) := by decide +kernel
theorem dX10_init_274 : decode cX10_init 274 = .ok (.putfield 70, 3) := by decide +kernel
theorem dX10_init_277 : decode cX10_init 277 = .ok (.aload_n 0, 1) := by decide +kernel
theorem dX10_init_278 : decode cX10_init 278 = .ok (.bipush 12, 2) := by decide +kernel
theorem dX10_init_280 : decode cX10_init 280 = .ok (.newarray .int, 2) := by decide +kernel
theorem dX10_init_282 : decode cX10_init 282 = .ok (.putfield 73, 3) := by decide +kernel
theorem dX10_init_285 : decode cX10_init 285 = .ok (.aload_n 0, 1) := by decide +kernel
theorem dX10_init_286 : decode cX10_init 286 = .ok (.bipush 8, 2) := by decide +kernel
theorem dX10_init_288 : decode cX10_init 288 = .ok (.newarray .int, 2) := by decide +kernel
theorem dX10_init_290 : decode cX10_init 290 = .ok (.putfield 76, 3) := by decide +kernel
theorem dX10_init_293 : decode cX10_init 293 = .ok (.aload_n 0, 1) := by decide +kernel
theorem dX10_init_294 : decode cX10_init 294 = .ok (.bipush 8, 2) := by decide +kernel
theorem dX10_init_296 : decode cX10_init 296 = .ok (.newarray .int, 2) := by decide +kernel
theorem dX10_init_298 : decode cX10_init 298 = .ok (.putfield 79, 3) := by decide +kernel
theorem dX10_init_301 : decode cX10_init 301 = .ok (.aload_n 0, 1) := by decide +kernel
theorem dX10_init_302 : decode cX10_init 302 = .ok (.bipush 8, 2) := by decide +kernel
theorem dX10_init_304 : decode cX10_init 304 = .ok (.newarray .int, 2) := by decide +kernel
theorem dX10_init_306 : decode cX10_init 306 = .ok (.putfield 82, 3) := by decide +kernel
theorem dX10_init_309 : decode cX10_init 309 = .ok (.aload_n 0, 1) := by decide +kernel
theorem dX10_init_310 : decode cX10_init 310 = .ok (.bipush 8, 2) := by decide +kernel
theorem dX10_init_312 : decode cX10_init 312 = .ok (.newarray .int, 2) := by decide +kernel
theorem dX10_init_314 : decode cX10_init 314 = .ok (.putfield 85, 3) := by decide +kernel
theorem dX10_init_317 : decode cX10_init 317 = .ok (.aload_n 0, 1) := by decide +kernel
theorem dX10_init_318 : decode cX10_init 318 = .ok (.bipush 12, 2) := by decide +kernel
theorem dX10_init_320 : decode cX10_init 320 = .ok (.newarray .int, 2) := by decide +kernel
theorem dX10_init_322 : decode cX10_init 322 = .ok (.putfield 88, 3) := by decide +kernel
theorem dX10_init_325 : decode cX10_init 325 = .ok (.aload_n 0, 1) := by decide +kernel
theorem dX10_init_326 : decode cX10_init 326 = .ok (.iconst 4, 1) := by decide +kernel
theorem dX10_init_327 : decode cX10_init 327 = .ok (.newarray .int, 2) := by decide +kernel
theorem dX10_init_329 : decode cX10_init 329 = .ok (.putfield 91, 3) := by decide +kernel
theorem dX10_init_332 : decode cX10_init 332 = .ok (.aload_n 0, 1) := by decide +kernel
theorem dX10_init_333 : decode cX10_init 333 = .ok (.iconst 4, 1) := by decide +kernel
theorem dX10_init_334 : decode cX10_init 334 = .ok (.newarray .int, 2) := by decide +kernel
theorem dX10_init_336 : decode cX10_init 336 = .ok (.putfield 94, 3) := by decide +kernel
theorem dX10_init_339 : decode cX10_init 339 = .ok (.aload_n 0, 1) := by decide +kernel
theorem dX10_init_340 : decode cX10_init 340 = .ok (.sipush 128, 3) := by decide +kernel
theorem dX10_init_343 : decode cX10_init 343 = .ok (.newarray .int, 2) := by decide +kernel
theorem dX10_init_345 : decode cX10_init 345 = .ok (.putfield 97, 3) := by decide +kernel
theorem dX10_init_348 : decode cX10_init 348 = .ok (.aload_n 0, 1) := by decide +kernel
theorem dX10_init_349 : decode cX10_init 349 = .ok (.sipush 128, 3) := by decide +kernel
theorem dX10_init_352 : decode cX10_init 352 = .ok (.newarray .int, 2) := by decide +kernel
theorem dX10_init_354 : decode cX10_init 354 = .ok (.putfield 100, 3) := by decide +kernel
theorem dX10_init_357 : decode cX10_init 357 = .ok (.aload_n 0, 1) := by decide +kernel
theorem dX10_init_358 : decode cX10_init 358 = .ok (.iconst (-1), 1) := by decide +kernel
theorem dX10_init_359 : decode cX10_init 359 = .ok (.putfield 103, 3) := by decide +kernel
theorem dX10_init_362 : decode cX10_init 362 = .ok (.aload_n 0, 1) := by decide +kernel
theorem dX10_init_363 : decode cX10_init 363 = .ok (.bipush 6, 2) := by decide +kernel
theorem dX10_init_365 : decode cX10_init 365 = .ok (.newarray .long, 2) := by decide +kernel
theorem dX10_init_367 : decode cX10_init 367 = .ok (.putfield 107, 3) := by decide +kernel
theorem dX10_init_370 : decode cX10_init 370 = .ok (.aload_n 0, 1) := by decide +kernel
theorem dX10_init_371 : decode cX10_init 371 = .ok (.bipush 64, 2) := by decide +kernel
theorem dX10_init_373 : decode cX10_init 373 = .ok (.newarray .long, 2) := by decide +kernel
theorem dX10_init_375 : decode cX10_init 375 = .ok (.putfield 111, 3) := by decide +kernel
theorem dX10_init_378 : decode cX10_init 378 = .ok (.aload_n 0, 1) := by decide +kernel
theorem dX10_init_379 : decode cX10_init 379 = .ok (.bipush 22, 2) := by decide +kernel
theorem dX10_init_381 : decode cX10_init 381 = .ok (.newarray .int, 2) := by decide +kernel
theorem dX10_init_383 : decode cX10_init 383 = .ok (.putfield 114, 3) := by decide +kernel
theorem dX10_init_386 : decode cX10_init 386 = .ok (.aload_n 0, 1) := by decide +kernel
theorem dX10_init_387 : decode cX10_init 387 = .ok (.sipush 264, 3) := by decide +kernel
theorem dX10_init_390 : decode cX10_init 390 = .ok (.newarray .int, 2) := by decide +kernel
theorem dX10_init_392 : decode cX10_init 392 = .ok (.putfield 117, 3) := by decide +kernel
theorem dX10_init_395 : decode cX10_init 395 = .ok (.aload_n 0, 1) := by decide +kernel
theorem dX10_init_396 : decode cX10_init 396 = .ok (.sipush 264, 3) := by decide +kernel
theorem dX10_init_399 : decode cX10_init 399 = .ok (.newarray .int, 2) := by decide +kernel
theorem dX10_init_401 : decode cX10_init 401 = .ok (.putfield 120, 3) := by decide +kernel
theorem dX10_init_404 : decode cX10_init 404 = .ok (.aload_n 0, 1) := by decide +kernel
theorem dX10_init_405 : decode cX10_init 405 = .ok (.sipush 264, 3) := by decide +kernel
theorem dX10_init_408 : decode cX10_init 408 = .ok (.newarray .int, 2) := by decide +kernel
theorem dX10_init_410 : decode cX10_init 410 = .ok (.putfield 123, 3) := by decide +kernel
theorem dX10_init_413 : decode cX10_init 413 = .ok (.aload_n 0, 1) := by decide +kernel
theorem dX10_init_414 : decode cX10_init 414 = .ok (.sipush 264, 3) := by decide +kernel
theorem dX10_init_417 : decode cX10_init 417 = .ok (.newarray .int, 2) := by decide +kernel
theorem dX10_init_419 : decode cX10_init 419 = .ok (.putfield 126, 3) := by decide +kernel
theorem dX10_init_422 : decode cX10_init 422 = .ok (.aload_n 0, 1) := by decide +kernel
theorem dX10_init_423 : decode cX10_init 423 = .ok (.sipush 264, 3) := by decide +kernel
theorem dX10_init_426 : decode cX10_init 426 = .ok (.newarray .int, 2) := by decide +kernel
theorem dX10_init_428 : decode cX10_init 428 = .ok (.putfield 129, 3) := by decide +kernel
theorem dX10_init_431 : decode cX10_init 431 = .ok (.aload_n 0, 1) := by decide +kernel
theorem dX10_init_432 : decode cX10_init 432 = .ok (.bipush 22, 2) := by decide +kernel
theorem dX10_init_434 : decode cX10_init 434 = .ok (.newarray .int, 2) := by decide +kernel
theorem dX10_init_436 : decode cX10_init 436 = .ok (.putfield 132, 3) := by decide +kernel
theorem dX10_init_439 : decode cX10_init 439 = .ok (.aload_n 0, 1) := by decide +kernel
theorem dX10_init_440 : decode cX10_init 440 = .ok (.sipush 176, 3) := by decide +kernel
theorem dX10_init_443 : decode cX10_init 443 = .ok (.newarray .int, 2) := by decide +kernel
theorem dX10_init_445 : decode cX10_init 445 = .ok (.putfield 135, 3) := by decide +kernel
theorem dX10_init_448 : decode cX10_init 448 = .ok (.aload_n 0, 1) := by decide +kernel
theorem dX10_init_449 : decode cX10_init 449 = .ok (.bipush 22, 2) := by decide +kernel
theorem dX10_init_451 : decode cX10_init 451 = .ok (.newarray .int, 2) := by decide +kernel
theorem dX10_init_453 : decode cX10_init 453 = .ok (.putfield 138, 3) := by decide +kernel
theorem dX10_init_456 : decode cX10_init 456 = .ok (.aload_n 0, 1) := by decide +kernel
theorem dX10_init_457 : decode cX10_init 457 = .ok (.bipush 88, 2) := by decide +kernel
theorem dX10_init_459 : decode cX10_init 459 = .ok (.newarray .int, 2) := by decide +kernel
theorem dX10_init_461 : decode cX10_init 461 = .ok (.putfield 141, 3) := by decide +kernel
theorem dX10_init_464 : decode cX10_init 464 = .ok (.aload_n 0, 1) := by decide +kernel
theorem dX10_init_465 : decode cX10_init 465 = .ok (.bipush 22, 2) := by decide +kernel
theorem dX10_init_467 : decode cX10_init 467 = .ok (.newarray .int, 2) := by decide +kernel
theorem dX10_init_469 : decode cX10_init 469 = .ok (.putfield 144, 3) := by decide +kernel
theorem dX10_init_472 : decode cX10_init 472 = .ok (.aload_n 0, 1) := by decide +kernel
theorem dX10_init_473 : decode cX10_init 473 = .ok (.bipush 16, 2) := by decide +kernel
theorem dX10_init_475 : decode cX10_init 475 = .ok (.newarray .int, 2) := by decide +kernel
theorem dX10_init_477 : decode cX10_init 477 = .ok (.putfield 147, 3) := by decide +kernel
theorem dX10_init_480 : decode cX10_init 480 = .ok (.aload_n 0, 1) := by decide +kernel
theorem dX10_init_481 : decode cX10_init 481 = .ok (.bipush 16, 2) := by decide +kernel
theorem dX10_init_483 : decode cX10_init 483 = .ok (.newarray .int, 2) := by decide +kernel
theorem dX10_init_485 : decode cX10_init 485 = .ok (.putfield 150, 3) := by decide +kernel
theorem dX10_init_488 : decode cX10_init 488 = .ok (.aload_n 0, 1) := by decide +kernel
theorem dX10_init_489 : decode cX10_init 489 = .ok (.bipush 16, 2) := by decide +kernel
theorem dX10_init_491 : decode cX10_init 491 = .ok (.newarray .int, 2) := by decide +kernel
theorem dX10_init_493 : decode cX10_init 493 = .ok (.putfield 153, 3) := by decide +kernel
theorem dX10_init_496 : decode cX10_init 496 = .ok (.aload_n 0, 1) := by decide +kernel
theorem dX10_init_497 : decode cX10_init 497 = .ok (.bipush 16, 2) := by decide +kernel
theorem dX10_init_499 : decode cX10_init 499 = .ok (.newarray .int, 2) := by decide +kernel
theorem dX10_init_501 : decode cX10_init 501 = .ok (.putfield 156, 3) := by decide +kernel
theorem dX10_init_504 : decode cX10_init 504 = .ok (.aload_n 0, 1) := by decide +kernel
theorem dX10_init_505 : decode cX10_init 505 = .ok (.bipush 16, 2) := by decide +kernel
theorem dX10_init_507 : decode cX10_init 507 = .ok (.newarray .int, 2) := by decide +kernel
theorem dX10_init_509 : decode cX10_init 509 = .ok (.putfield 159, 3) := by decide +kernel
theorem dX10_init_512 : decode cX10_init 512 = .ok (.aload_n 0, 1) := by decide +kernel
theorem dX10_init_513 : decode cX10_init 513 = .ok (.bipush 36, 2) := by decide +kernel
theorem dX10_init_515 : decode cX10_init 515 = .ok (.newarray .int, 2) := by decide +kernel
theorem dX10_init_517 : decode cX10_init 517 = .ok (.putfield 162, 3) := by decide +kernel
theorem dX10_init_520 : decode cX10_init 520 = .ok (.aload_n 0, 1) := by decide +kernel
theorem dX10_init_521 : decode cX10_init 521 = .ok (.sipush 288, 3) := by decide +kernel
theorem dX10_init_524 : decode cX10_init 524 = .ok (.newarray .int, 2) := by decide +kernel
theorem dX10_init_526 : decode cX10_init 526 = .ok (.putfield 165, 3) := by decide +kernel
theorem dX10_init_529 : decode cX10_init 529 = .ok (.aload_n 0, 1) := by decide +kernel
theorem dX10_init_530 : decode cX10_init 530 = .ok (.bipush 16, 2) := by decide +kernel
theorem dX10_init_532 : decode cX10_init 532 = .ok (.newarray .int, 2) := by decide +kernel
theorem dX10_init_534 : decode cX10_init 534 = .ok (.putfield 168, 3) := by decide +kernel
theorem dX10_init_537 : decode cX10_init 537 = .ok (.aload_n 0, 1) := by decide +kernel
theorem dX10_init_538 : decode cX10_init 538 = .ok (.bipush 16, 2) := by decide +kernel
theorem dX10_init_540 : decode cX10_init 540 = .ok (.newarray .int, 2) := by decide +kernel
theorem dX10_init_542 : decode cX10_init 542 = .ok (.putfield 171, 3) := by decide +kernel
theorem dX10_init_545 : decode cX10_init 545 = .ok (.aload_n 0, 1) := by decide +kernel
theorem dX10_init_546 : decode cX10_init 546 = .ok (.bipush 16, 2) := by decide +kernel
theorem dX10_init_548 : decode cX10_init 548 = .ok (.newarray .int, 2) := by decide +kernel
theorem dX10_init_550 : decode cX10_init 550 = .ok (.putfield 174, 3) := by decide +kernel
theorem dX10_init_553 : decode cX10_init 553 = .ok (.aload_n 0, 1) := by decide +kernel
theorem dX10_init_554 : decode cX10_init 554 = .ok (.bipush 16, 2) := by decide +kernel
theorem dX10_init_556 : decode cX10_init 556 = .ok (.newarray .int, 2) := by decide +kernel
theorem dX10_init_558 : decode cX10_init 558 = .ok (.putfield 177, 3) := by decide +kernel
theorem dX10_init_561 : decode cX10_init 561 = .ok (.aload_n 0, 1) := by decide +kernel
theorem dX10_init_562 : decode cX10_init 562 = .ok (.sipush 288, 3) := by decide +kernel
theorem dX10_init_565 : decode cX10_init 565 = .ok (.newarray .int, 2) := by decide +kernel
theorem dX10_init_567 : decode cX10_init 567 = .ok (.putfield 180, 3) := by decide +kernel
theorem dX10_init_570 : decode cX10_init 570 = .ok (.aload_n 0, 1) := by decide +kernel
theorem dX10_init_571 : decode cX10_init 571 = .ok (.sipush 144, 3) := by decide +kernel
theorem dX10_init_574 : decode cX10_init 574 = .ok (.newarray .int, 2) := by decide +kernel
theorem dX10_init_576 : decode cX10_init 576 = .ok (.putfield 183, 3) := by decide +kernel
theorem dX10_init_579 : decode cX10_init 579 = .ok (.aload_n 0, 1) := by decide +kernel
theorem dX10_init_580 : decode cX10_init 580 = .ok (.sipush 144, 3) := by decide +kernel
theorem dX10_init_583 : decode cX10_init 583 = .ok (.newarray .int, 2) := by decide +kernel
theorem dX10_init_585 : decode cX10_init 585 = .ok (.putfield 186, 3) := by decide +kernel
theorem dX10_init_588 : decode cX10_init 588 = .ok (.aload_n 0, 1) := by decide +kernel
theorem dX10_init_589 : decode cX10_init 589 = .ok (.sipush 144, 3) := by decide +kernel
theorem dX10_init_592 : decode cX10_init 592 = .ok (.newarray .int, 2) := by decide +kernel
theorem dX10_init_594 : decode cX10_init 594 = .ok (.putfield 189, 3) := by decide +kernel
theorem dX10_init_597 : decode cX10_init 597 = .ok (.aload_n 0, 1) := by decide +kernel
theorem dX10_init_598 : decode cX10_init 598 = .ok (.sipush 144, 3) := by decide +kernel
theorem dX10_init_601 : decode cX10_init 601 = .ok (.newarray .int, 2) := by decide +kernel
theorem dX10_init_603 : decode cX10_init 603 = .ok (.putfield 192, 3) := by decide +kernel
theorem dX10_init_606 : decode cX10_init 606 = .ok (.aload_n 0, 1) := by decide +kernel
theorem dX10_init_607 : decode cX10_init 607 = .ok (.sipush 192, 3) := by decide +kernel
theorem dX10_init_610 : decode cX10_init 610 = .ok (.newarray .boolean, 2) := by decide +kernel
theorem dX10_init_612 : decode cX10_init 612 = .ok (.putfield 195, 3) := by decide +kernel
theorem dX10_init_615 : decode cX10_init 615 = .ok (.aload_n 0, 1) := by decide +kernel
theorem dX10_init_616 : decode cX10_init 616 = .ok (.iconst 4, 1) := by decide +kernel
theorem dX10_init_617 : decode cX10_init 617 = .ok (.newarray .int, 2) := by decide +kernel
theorem dX10_init_619 : decode cX10_init 619 = .ok (.putfield 199, 3) := by decide +kernel
theorem dX10_init_622 : decode cX10_init 622 = .ok (.aload_n 0, 1) := by decide +kernel
theorem dX10_init_623 : decode cX10_init 623 = .ok (.iconst 4, 1) := by decide +kernel
theorem dX10_init_624 : decode cX10_init 624 = .ok (.newarray .int, 2) := by decide +kernel
theorem dX10_init_626 : decode cX10_init 626 = .ok (.putfield 202, 3) := by decide +kernel
theorem dX10_init_629 : decode cX10_init 629 = .ok (.aload_n 0, 1) := by decide +kernel
theorem dX10_init_630 : decode cX10_init 630 = .ok (.iconst 4, 1) := by decide +kernel
theorem dX10_init_631 : decode cX10_init 631 = .ok (.newarray .int, 2) := by decide +kernel
theorem dX10_init_633 : decode cX10_init 633 = .ok (.putfield 205, 3) := by decide +kernel
theorem dX10_init_636 : decode cX10_init 636 = .ok (.aload_n 0, 1) := by decide +kernel
theorem dX10_init_637 : decode cX10_init 637 = .ok (.iconst 4, 1) := by decide +kernel
theorem dX10_init_638 : decode cX10_init 638 = .ok (.newarray .int, 2) := by decide +kernel
theorem dX10_init_640 : decode cX10_init 640 = .ok (.putfield 208, 3) := by decide +kernel
theorem dX10_init_643 : decode cX10_init 643 = .ok (.aload_n 0, 1) := by decide +kernel
theorem dX10_init_644 : decode cX10_init 644 = .ok (.bipush 64, 2) := by decide +kernel
theorem dX10_init_646 : decode cX10_init 646 = .ok (.newarray .int, 2) := by decide +kernel
theorem dX10_init_648 : decode cX10_init 648 = .ok (.putfield 211, 3) := by decide +kernel
theorem dX10_init_651 : decode cX10_init 651 = .ok (.aload_n 0, 1) := by decide +kernel
theorem dX10_init_652 : decode cX10_init 652 = .ok (.iconst (-1), 1) := by decide +kernel
theorem dX10_init_653 : decode cX10_init 653 = .ok (.putfield 214, 3) := by decide +kernel
theorem dX10_init_656 : decode cX10_init 656 = .ok (.aload_n 0, 1) := by decide +kernel
theorem dX10_init_657 : decode cX10_init 657 = .ok (.bipush 24, 2) := by decide +kernel
theorem dX10_init_659 : decode cX10_init 659 = .ok (.newarray .int, 2) := by decide +kernel
theorem dX10_init_661 : decode cX10_init 661 = .ok (.putfield 217, 3) := by decide +kernel
theorem dX10_init_664 : decode cX10_init 664 = .ok (.aload_n 0, 1) := by decide +kernel
theorem dX10_init_665 : decode cX10_init 665 = .ok (.bipush 24, 2) := by decide +kernel
theorem dX10_init_667 : decode cX10_init 667 = .ok (.newarray .int, 2) := by decide +kernel
theorem dX10_init_669 : decode cX10_init 669 = .ok (.putfield 220, 3) := by decide +kernel
theorem dX10_init_672 : decode cX10_init 672 = .ok (.aload_n 0, 1) := by decide +kernel
theorem dX10_init_673 : decode cX10_init 673 = .ok (.bipush 24, 2) := by decide +kernel
theorem dX10_init_675 : decode cX10_init 675 = .ok (.newarray .boolean, 2) := by decide +kernel
theorem dX10_init_677 : decode cX10_init 677 = .ok (.putfield 223, 3) := by decide +kernel
theorem dX10_init_680 : decode cX10_init 680 = .ok (.aload_n 0, 1) := by decide +kernel
theorem dX10_init_681 : decode cX10_init 681 = .ok (.bipush 24, 2) := by decide +kernel
theorem dX10_init_683 : decode cX10_init 683 = .ok (.newarray .int, 2) := by decide +kernel
theorem dX10_init_685 : decode cX10_init 685 = .ok (.putfield 226, 3) := by decide +kernel
theorem dX10_init_688 : decode cX10_init 688 = .ok (.aload_n 0, 1) := by decide +kernel
theorem dX10_init_689 : decode cX10_init 689 = .ok (.bipush 24, 2) := by decide +kernel
theorem dX10_init_691 : decode cX10_init 691 = .ok (.newarray .boolean, 2) := by decide +kernel
theorem dX10_init_693 : decode cX10_init 693 = .ok (.putfield 229, 3) := by decide +kernel
theorem dX10_init_696 : decode cX10_init 696 = .ok (.aload_n 0, 1) := by decide +kernel
theorem dX10_init_697 : decode cX10_init 697 = .ok (.invokevirtual 232, 3) := by decide +kernel
theorem dX10_init_700 : decode cX10_init 700 = .ok (.return_, 1) := by decide +kernel
theorem dX10_thrown_0 : decode cX10_thrown 0 = .ok (.aload_n 0, 1) := by decide +kernel
theorem dX10_thrown_1 : decode cX10_thrown 1 = .ok (.getfield 235, 3) := by decide +kernel
theorem dX10_thrown_4 : decode cX10_thrown 4 = .ok (.ireturn, 1) := by decide +kernel
theorem dX10_feed_0 : decode cX10_feed 0 = .ok (.aload_n 0, 1) := by decide +kernel
theorem dX10_feed_1 : decode cX10_feed 1 = .ok (.iconst 0, 1) := by decide +kernel
theorem dX10_feed_2 : decode cX10_feed 2 = .ok (.putfield 235, 3) := by decide +kernel
theorem dX10_feed_5 : decode cX10_feed 5 = .ok (.aload_n 0, 1) := by decide +kernel
theorem dX10_feed_6 : decode cX10_feed 6 = .ok (.getfield 238, 3) := by decide +kernel
theorem dX10_feed_9 : decode cX10_feed 9 = .ok (.sipush 680, 3) := by decide +kernel
theorem dX10_feed_12 : decode cX10_feed 12 = .ok (.if_icmp .le 5, 3) := by decide +kernel
theorem dX10_feed_15 : decode cX10_feed 15 = .ok (.iconst (-1), 1) := by decide +kernel
theorem dX10_feed_16 : decode cX10_feed 16 = .ok (.ireturn, 1) := by decide +kernel
theorem dX10_feed_17 : decode cX10_feed 17 = .ok (.iconst 0, 1) := by decide +kernel
theorem dX10_feed_18 : decode cX10_feed 18 = .ok (.istore 6, 2) := by decide +kernel
theorem dX10_feed_20 : decode cX10_feed 20 = .ok (.iload 6, 2) := by decide +kernel
theorem dX10_feed_22 : decode cX10_feed 22 = .ok (.bipush 20, 2) := by decide +kernel
theorem dX10_feed_24 : decode cX10_feed 24 = .ok (.if_icmp .ge 86, 3) := by decide +kernel
theorem dX10_feed_27 : decode cX10_feed 27 = .ok (.iload 6, 2) := by decide +kernel
theorem dX10_feed_29 : decode cX10_feed 29 = .ok (.iconst 4, 1) := by decide +kernel
theorem dX10_feed_30 : decode cX10_feed 30 = .ok (.if_icmp .ge 7, 3) := by decide +kernel
theorem dX10_feed_33 : decode cX10_feed 33 = .ok (.iload_n 1, 1) := by decide +kernel
theorem dX10_feed_34 : decode cX10_feed 34 = .ok (.goto 39, 3) := by decide +kernel
theorem dX10_feed_37 : decode cX10_feed 37 = .ok (.iload 6, 2) := by decide +kernel
theorem dX10_feed_39 : decode cX10_feed 39 = .ok (.bipush 8, 2) := by decide +kernel
theorem dX10_feed_41 : decode cX10_feed 41 = .ok (.if_icmp .ge 7, 3) := by decide +kernel
theorem dX10_feed_44 : decode cX10_feed 44 = .ok (.iload_n 2, 1) := by decide +kernel
theorem dX10_feed_45 : decode cX10_feed 45 = .ok (.goto 28, 3) := by decide +kernel
theorem dX10_feed_48 : decode cX10_feed 48 = .ok (.iload 6, 2) := by decide +kernel
theorem dX10_feed_50 : decode cX10_feed 50 = .ok (.bipush 12, 2) := by decide +kernel
theorem dX10_feed_52 : decode cX10_feed 52 = .ok (.if_icmp .ge 7, 3) := by decide +kernel
theorem dX10_feed_55 : decode cX10_feed 55 = .ok (.iload_n 3, 1) := by decide +kernel
theorem dX10_feed_56 : decode cX10_feed 56 = .ok (.goto 17, 3) := by decide +kernel
theorem dX10_feed_59 : decode cX10_feed 59 = .ok (.iload 6, 2) := by decide +kernel
theorem dX10_feed_61 : decode cX10_feed 61 = .ok (.bipush 16, 2) := by decide +kernel
theorem dX10_feed_63 : decode cX10_feed 63 = .ok (.if_icmp .ge 8, 3) := by decide +kernel
theorem dX10_feed_66 : decode cX10_feed 66 = .ok (.iload 4, 2) := by decide +kernel
theorem dX10_feed_68 : decode cX10_feed 68 = .ok (.goto 5, 3) := by decide +kernel
theorem dX10_feed_71 : decode cX10_feed 71 = .ok (.iload 5, 2) := by decide +kernel
theorem dX10_feed_73 : decode cX10_feed 73 = .ok (.istore 7, 2) := by decide +kernel
theorem dX10_feed_75 : decode cX10_feed 75 = .ok (.aload_n 0, 1) := by decide +kernel
theorem dX10_feed_76 : decode cX10_feed 76 = .ok (.getfield 7, 3) := by decide +kernel
theorem dX10_feed_79 : decode cX10_feed 79 = .ok (.aload_n 0, 1) := by decide +kernel
theorem dX10_feed_80 : decode cX10_feed 80 = .ok (.getfield 238, 3) := by decide +kernel
theorem dX10_feed_83 : decode cX10_feed 83 = .ok (.iload 6, 2) := by decide +kernel
theorem dX10_feed_85 : decode cX10_feed 85 = .ok (.iadd, 1) := by decide +kernel
theorem dX10_feed_86 : decode cX10_feed 86 = .ok (.iload 7, 2) := by decide +kernel
theorem dX10_feed_88 : decode cX10_feed 88 = .ok (.bipush 24, 2) := by decide +kernel
theorem dX10_feed_90 : decode cX10_feed 90 = .ok (.bipush 8, 2) := by decide +kernel
theorem dX10_feed_92 : decode cX10_feed 92 = .ok (.iload 6, 2) := by decide +kernel
theorem dX10_feed_94 : decode cX10_feed 94 = .ok (.iconst 4, 1) := by decide +kernel
theorem dX10_feed_95 : decode cX10_feed 95 = .ok (.irem, 1) := by decide +kernel
theorem dX10_feed_96 : decode cX10_feed 96 = .ok (.imul, 1) := by decide +kernel
theorem dX10_feed_97 : decode cX10_feed 97 = .ok (.isub, 1) := by decide +kernel
theorem dX10_feed_98 : decode cX10_feed 98 = .ok (.ishr, 1) := by decide +kernel
theorem dX10_feed_99 : decode cX10_feed 99 = .ok (.sipush 255, 3) := by decide +kernel
theorem dX10_feed_102 : decode cX10_feed 102 = .ok (.iand, 1) := by decide +kernel
theorem dX10_feed_103 : decode cX10_feed 103 = .ok (.iastore, 1) := by decide +kernel
theorem dX10_feed_104 : decode cX10_feed 104 = .ok (.iinc 6 1, 3) := by decide +kernel
theorem dX10_feed_107 : decode cX10_feed 107 = .ok (.goto (-87), 3) := by decide +kernel
theorem dX10_feed_110 : decode cX10_feed 110 = .ok (.aload_n 0, 1) := by decide +kernel
theorem dX10_feed_111 : decode cX10_feed 111 = .ok (.dup, 1) := by decide +kernel
theorem dX10_feed_112 : decode cX10_feed 112 = .ok (.getfield 238, 3) := by decide +kernel
theorem dX10_feed_115 : decode cX10_feed 115 = .ok (.bipush 20, 2) := by decide +kernel
theorem dX10_feed_117 : decode cX10_feed 117 = .ok (.iadd, 1) := by decide +kernel
theorem dX10_feed_118 : decode cX10_feed 118 = .ok (.putfield 238, 3) := by decide +kernel
theorem dX10_feed_121 : decode cX10_feed 121 = .ok (.aload_n 0, 1) := by decide +kernel
theorem dX10_feed_122 : decode cX10_feed 122 = .ok (.getfield 238, 3) := by decide +kernel
theorem dX10_feed_125 : decode cX10_feed 125 = .ok (.ireturn, 1) := by decide +kernel
theorem dX10_here_0 : decode cX10_here 0 = .ok (.aload_n 0, 1) := by decide +kernel
theorem dX10_here_1 : decode cX10_here 1 = .ok (.getfield 241, 3) := by decide +kernel
theorem dX10_here_4 : decode cX10_here 4 = .ok (.aload_n 0, 1) := by decide +kernel
theorem dX10_here_5 : decode cX10_here 5 = .ok (.getfield 244, 3) := by decide +kernel
theorem dX10_here_8 : decode cX10_here 8 = .ok (.if_icmp .ge 15, 3) := by decide +kernel
theorem dX10_here_11 : decode cX10_here 11 = .ok (.aload_n 0, 1) := by decide +kernel
theorem dX10_here_12 : decode cX10_here 12 = .ok (.getfield 7, 3) := by decide +kernel
theorem dX10_here_15 : decode cX10_here 15 = .ok (.aload_n 0, 1) := by decide +kernel
theorem dX10_here_16 : decode cX10_here 16 = .ok (.getfield 241, 3) := by decide +kernel
theorem dX10_here_19 : decode cX10_here 19 = .ok (.iaload, 1) := by decide +kernel
theorem dX10_here_20 : decode cX10_here 20 = .ok (.goto 4, 3) := by decide +kernel
theorem dX10_here_23 : decode cX10_here 23 = .ok (.iconst (-1), 1) := by decide +kernel
theorem dX10_here_24 : decode cX10_here 24 = .ok (.ireturn, 1) := by decide +kernel
theorem dX10_isSmall_0 : decode cX10_isSmall 0 = .ok (.iload_n 0, 1) := by decide +kernel
theorem dX10_isSmall_1 : decode cX10_isSmall 1 = .ok (.bipush 97, 2) := by decide +kernel
theorem dX10_isSmall_3 : decode cX10_isSmall 3 = .ok (.if_icmp .lt 13, 3) := by decide +kernel
theorem dX10_isSmall_6 : decode cX10_isSmall 6 = .ok (.iload_n 0, 1) := by decide +kernel
theorem dX10_isSmall_7 : decode cX10_isSmall 7 = .ok (.bipush 122, 2) := by decide +kernel
theorem dX10_isSmall_9 : decode cX10_isSmall 9 = .ok (.if_icmp .gt 7, 3) := by decide +kernel
theorem dX10_isSmall_12 : decode cX10_isSmall 12 = .ok (.iconst 1, 1) := by decide +kernel
theorem dX10_isSmall_13 : decode cX10_isSmall 13 = .ok (.goto 4, 3) := by decide +kernel
theorem dX10_isSmall_16 : decode cX10_isSmall 16 = .ok (.iconst 0, 1) := by decide +kernel
theorem dX10_isSmall_17 : decode cX10_isSmall 17 = .ok (.ireturn, 1) := by decide +kernel
theorem dX10_isDigit_0 : decode cX10_isDigit 0 = .ok (.iload_n 0, 1) := by decide +kernel
theorem dX10_isDigit_1 : decode cX10_isDigit 1 = .ok (.bipush 48, 2) := by decide +kernel
theorem dX10_isDigit_3 : decode cX10_isDigit 3 = .ok (.if_icmp .lt 13, 3) := by decide +kernel
theorem dX10_isDigit_6 : decode cX10_isDigit 6 = .ok (.iload_n 0, 1) := by decide +kernel
theorem dX10_isDigit_7 : decode cX10_isDigit 7 = .ok (.bipush 57, 2) := by decide +kernel
theorem dX10_isDigit_9 : decode cX10_isDigit 9 = .ok (.if_icmp .gt 7, 3) := by decide +kernel
theorem dX10_isDigit_12 : decode cX10_isDigit 12 = .ok (.iconst 1, 1) := by decide +kernel
theorem dX10_isDigit_13 : decode cX10_isDigit 13 = .ok (.goto 4, 3) := by decide +kernel
theorem dX10_isDigit_16 : decode cX10_isDigit 16 = .ok (.iconst 0, 1) := by decide +kernel
theorem dX10_isDigit_17 : decode cX10_isDigit 17 = .ok (.ireturn, 1) := by decide +kernel
theorem dX10_token_0 : decode cX10_token 0 = .ok (.aload_n 0, 1) := by decide +kernel
theorem dX10_token_1 : decode cX10_token 1 = .ok (.invokevirtual 247, 3) := by decide +kernel
theorem dX10_token_4 : decode cX10_token 4 = .ok (.bipush 10, 2) := by decide +kernel
theorem dX10_token_6 : decode cX10_token 6 = .ok (.if_icmp .eq 12, 3) := by decide +kernel
theorem dX10_token_9 : decode cX10_token 9 = .ok (.aload_n 0, 1) := by decide +kernel
theorem dX10_token_10 : decode cX10_token 10 = .ok (.invokevirtual 247, 3) := by decide +kernel
theorem dX10_token_13 : decode cX10_token 13 = .ok (.bipush 32, 2) := by decide +kernel
theorem dX10_token_15 : decode cX10_token 15 = .ok (.if_icmp .ne 16, 3) := by decide +kernel
theorem dX10_token_18 : decode cX10_token 18 = .ok (.aload_n 0, 1) := by decide +kernel
theorem dX10_token_19 : decode cX10_token 19 = .ok (.dup, 1) := by decide +kernel
theorem dX10_token_20 : decode cX10_token 20 = .ok (.getfield 241, 3) := by decide +kernel
theorem dX10_token_23 : decode cX10_token 23 = .ok (.iconst 1, 1) := by decide +kernel
theorem dX10_token_24 : decode cX10_token 24 = .ok (.iadd, 1) := by decide +kernel
theorem dX10_token_25 : decode cX10_token 25 = .ok (.putfield 241, 3) := by decide +kernel
theorem dX10_token_28 : decode cX10_token 28 = .ok (.goto (-28), 3) := by decide +kernel
theorem dX10_token_31 : decode cX10_token 31 = .ok (.aload_n 0, 1) := by decide +kernel
theorem dX10_token_32 : decode cX10_token 32 = .ok (.aload_n 0, 1) := by decide +kernel
theorem dX10_token_33 : decode cX10_token 33 = .ok (.getfield 241, 3) := by decide +kernel
theorem dX10_token_36 : decode cX10_token 36 = .ok (.putfield 251, 3) := by decide +kernel
theorem dX10_token_39 : decode cX10_token 39 = .ok (.aload_n 0, 1) := by decide +kernel
theorem dX10_token_40 : decode cX10_token 40 = .ok (.invokevirtual 247, 3) := by decide +kernel
theorem dX10_token_43 : decode cX10_token 43 = .ok (.istore_n 1, 1) := by decide +kernel
theorem dX10_token_44 : decode cX10_token 44 = .ok (.iload_n 1, 1) := by decide +kernel
theorem dX10_token_45 : decode cX10_token 45 = .ok (.iconst (-1), 1) := by decide +kernel
theorem dX10_token_46 : decode cX10_token 46 = .ok (.if_icmp .ne 11, 3) := by decide +kernel
theorem dX10_token_49 : decode cX10_token 49 = .ok (.aload_n 0, 1) := by decide +kernel
theorem dX10_token_50 : decode cX10_token 50 = .ok (.iconst 4, 1) := by decide +kernel
theorem dX10_token_51 : decode cX10_token 51 = .ok (.putfield 254, 3) := by decide +kernel
theorem dX10_token_54 : decode cX10_token 54 = .ok (.goto 172, 3) := by decide +kernel
theorem dX10_token_57 : decode cX10_token 57 = .ok (.iload_n 1, 1) := by decide +kernel
theorem dX10_token_58 : decode cX10_token 58 = .ok (.invokestatic 257, 3) := by decide +kernel
theorem dX10_token_61 : decode cX10_token 61 = .ok (.ifCond .eq 84, 3) := by decide +kernel
theorem dX10_token_64 : decode cX10_token 64 = .ok (.aload_n 0, 1) := by decide +kernel
theorem dX10_token_65 : decode cX10_token 65 = .ok (.invokevirtual 247, 3) := by decide +kernel
theorem dX10_token_68 : decode cX10_token 68 = .ok (.invokestatic 257, 3) := by decide +kernel
theorem dX10_token_71 : decode cX10_token 71 = .ok (.ifCond .eq 16, 3) := by decide +kernel
theorem dX10_token_74 : decode cX10_token 74 = .ok (.aload_n 0, 1) := by decide +kernel
theorem dX10_token_75 : decode cX10_token 75 = .ok (.dup, 1) := by decide +kernel
theorem dX10_token_76 : decode cX10_token 76 = .ok (.getfield 241, 3) := by decide +kernel
theorem dX10_token_79 : decode cX10_token 79 = .ok (.iconst 1, 1) := by decide +kernel
theorem dX10_token_80 : decode cX10_token 80 = .ok (.iadd, 1) := by decide +kernel
theorem dX10_token_81 : decode cX10_token 81 = .ok (.putfield 241, 3) := by decide +kernel
theorem dX10_token_84 : decode cX10_token 84 = .ok (.goto (-20), 3) := by decide +kernel
theorem dX10_token_87 : decode cX10_token 87 = .ok (.aload_n 0, 1) := by decide +kernel
theorem dX10_token_88 : decode cX10_token 88 = .ok (.aload_n 0, 1) := by decide +kernel
theorem dX10_token_89 : decode cX10_token 89 = .ok (.invokevirtual 261, 3) := by decide +kernel
theorem dX10_token_92 : decode cX10_token 92 = .ok (.putfield 264, 3) := by decide +kernel
theorem dX10_token_95 : decode cX10_token 95 = .ok (.aload_n 0, 1) := by decide +kernel
theorem dX10_token_96 : decode cX10_token 96 = .ok (.aload_n 0, 1) := by decide +kernel
theorem dX10_token_97 : decode cX10_token 97 = .ok (.getfield 264, 3) := by decide +kernel
theorem dX10_token_100 : decode cX10_token 100 = .ok (.iconst (-1), 1) := by decide +kernel
theorem dX10_token_101 : decode cX10_token 101 = .ok (.if_icmp .eq 7, 3) := by decide +kernel
theorem dX10_token_104 : decode cX10_token 104 = .ok (.iconst 0, 1) := by decide +kernel
theorem dX10_token_105 : decode cX10_token 105 = .ok (.goto 22, 3) := by decide +kernel
theorem dX10_token_108 : decode cX10_token 108 = .ok (.aload_n 0, 1) := by decide +kernel
theorem dX10_token_109 : decode cX10_token 109 = .ok (.getfield 241, 3) := by decide +kernel
theorem dX10_token_112 : decode cX10_token 112 = .ok (.aload_n 0, 1) := by decide +kernel
theorem dX10_token_113 : decode cX10_token 113 = .ok (.getfield 251, 3) := by decide +kernel
theorem dX10_token_116 : decode cX10_token 116 = .ok (.isub, 1) := by decide +kernel
theorem dX10_token_117 : decode cX10_token 117 = .ok (.bipush 6, 2) := by decide +kernel
theorem dX10_token_119 : decode cX10_token 119 = .ok (.if_icmp .le 7, 3) := by decide +kernel
theorem dX10_token_122 : decode cX10_token 122 = .ok (.iconst 5, 1) := by decide +kernel
theorem dX10_token_123 : decode cX10_token 123 = .ok (.goto 4, 3) := by decide +kernel
theorem dX10_token_126 : decode cX10_token 126 = .ok (.iconst 1, 1) := by decide +kernel
theorem dX10_token_127 : decode cX10_token 127 = .ok (.putfield 254, 3) := by decide +kernel
theorem dX10_token_130 : decode cX10_token 130 = .ok (.aload_n 0, 1) := by decide +kernel
theorem dX10_token_131 : decode cX10_token 131 = .ok (.getfield 254, 3) := by decide +kernel
theorem dX10_token_134 : decode cX10_token 134 = .ok (.iconst 1, 1) := by decide +kernel
theorem dX10_token_135 : decode cX10_token 135 = .ok (.if_icmp .ne 91, 3) := by decide +kernel
theorem dX10_token_138 : decode cX10_token 138 = .ok (.aload_n 0, 1) := by decide +kernel
theorem dX10_token_139 : decode cX10_token 139 = .ok (.invokevirtual 267, 3) := by decide +kernel
theorem dX10_token_142 : decode cX10_token 142 = .ok (.goto 84, 3) := by decide +kernel
theorem dX10_token_145 : decode cX10_token 145 = .ok (.iload_n 1, 1) := by decide +kernel
theorem dX10_token_146 : decode cX10_token 146 = .ok (.invokestatic 270, 3) := by decide +kernel
theorem dX10_token_149 : decode cX10_token 149 = .ok (.ifCond .eq 72, 3) := by decide +kernel
theorem dX10_token_152 : decode cX10_token 152 = .ok (.aload_n 0, 1) := by decide +kernel
theorem dX10_token_153 : decode cX10_token 153 = .ok (.iconst 2, 1) := by decide +kernel
theorem dX10_token_154 : decode cX10_token 154 = .ok (.putfield 254, 3) := by decide +kernel
theorem dX10_token_157 : decode cX10_token 157 = .ok (.aload_n 0, 1) := by decide +kernel
theorem dX10_token_158 : decode cX10_token 158 = .ok (.iconst 0, 1) := by decide +kernel
theorem dX10_token_159 : decode cX10_token 159 = .ok (.putfield 264, 3) := by decide +kernel
theorem dX10_token_162 : decode cX10_token 162 = .ok (.aload_n 0, 1) := by decide +kernel
theorem dX10_token_163 : decode cX10_token 163 = .ok (.invokevirtual 247, 3) := by decide +kernel
theorem dX10_token_166 : decode cX10_token 166 = .ok (.invokestatic 270, 3) := by decide +kernel
theorem dX10_token_169 : decode cX10_token 169 = .ok (.ifCond .eq 57, 3) := by decide +kernel
theorem dX10_token_172 : decode cX10_token 172 = .ok (.aload_n 0, 1) := by decide +kernel
theorem dX10_token_173 : decode cX10_token 173 = .ok (.aload_n 0, 1) := by decide +kernel
theorem dX10_token_174 : decode cX10_token 174 = .ok (.getfield 264, 3) := by decide +kernel
theorem dX10_token_177 : decode cX10_token 177 = .ok (.ldc_w 273, 3) := by decide +kernel
theorem dX10_token_180 : decode cX10_token 180 = .ok (.if_icmp .le 10, 3) := by decide +kernel
theorem dX10_token_183 : decode cX10_token 183 = .ok (.aload_n 0, 1) := by decide +kernel
theorem dX10_token_184 : decode cX10_token 184 = .ok (.getfield 264, 3) := by decide +kernel
theorem dX10_token_187 : decode cX10_token 187 = .ok (.goto 18, 3) := by decide +kernel
theorem dX10_token_190 : decode cX10_token 190 = .ok (.bipush 10, 2) := by decide +kernel
theorem dX10_token_192 : decode cX10_token 192 = .ok (.aload_n 0, 1) := by decide +kernel
theorem dX10_token_193 : decode cX10_token 193 = .ok (.getfield 264, 3) := by decide +kernel
theorem dX10_token_196 : decode cX10_token 196 = .ok (.imul, 1) := by decide +kernel
theorem dX10_token_197 : decode cX10_token 197 = .ok (.aload_n 0, 1) := by decide +kernel
theorem dX10_token_198 : decode cX10_token 198 = .ok (.invokevirtual 247, 3) := by decide +kernel
theorem dX10_token_201 : decode cX10_token 201 = .ok (.iadd, 1) := by decide +kernel
theorem dX10_token_202 : decode cX10_token 202 = .ok (.bipush 48, 2) := by decide +kernel
theorem dX10_token_204 : decode cX10_token 204 = .ok (.isub, 1) := by decide +kernel
theorem dX10_token_205 : decode cX10_token 205 = .ok (.putfield 264, 3) := by decide +kernel
theorem dX10_token_208 : decode cX10_token 208 = .ok (.aload_n 0, 1) := by decide +kernel
theorem dX10_token_209 : decode cX10_token 209 = .ok (.dup, 1) := by decide +kernel
theorem dX10_token_210 : decode cX10_token 210 = .ok (.getfield 241, 3) := by decide +kernel
theorem dX10_token_213 : decode cX10_token 213 = .ok (.iconst 1, 1) := by decide +kernel
theorem dX10_token_214 : decode cX10_token 214 = .ok (.iadd, 1) := by decide +kernel
theorem dX10_token_215 : decode cX10_token 215 = .ok (.putfield 241, 3) := by decide +kernel
theorem dX10_token_218 : decode cX10_token 218 = .ok (.goto (-56), 3) := by decide +kernel
theorem dX10_token_221 : decode cX10_token 221 = .ok (.aload_n 0, 1) := by decide +kernel
theorem dX10_token_222 : decode cX10_token 222 = .ok (.iload_n 1, 1) := by decide +kernel
theorem dX10_token_223 : decode cX10_token 223 = .ok (.invokevirtual 274, 3) := by decide +kernel
theorem dX10_token_226 : decode cX10_token 226 = .ok (.return_, 1) := by decide +kernel
theorem dX10_sign_0 : decode cX10_sign 0 = .ok (.aload_n 0, 1) := by decide +kernel
theorem dX10_sign_1 : decode cX10_sign 1 = .ok (.dup, 1) := by decide +kernel
theorem dX10_sign_2 : decode cX10_sign 2 = .ok (.getfield 241, 3) := by decide +kernel
theorem dX10_sign_5 : decode cX10_sign 5 = .ok (.iconst 1, 1) := by decide +kernel
theorem dX10_sign_6 : decode cX10_sign 6 = .ok (.iadd, 1) := by decide +kernel
theorem dX10_sign_7 : decode cX10_sign 7 = .ok (.putfield 241, 3) := by decide +kernel
theorem dX10_sign_10 : decode cX10_sign 10 = .ok (.aload_n 0, 1) := by decide +kernel
theorem dX10_sign_11 : decode cX10_sign 11 = .ok (.iload_n 1, 1) := by decide +kernel
theorem dX10_sign_12 : decode cX10_sign 12 = .ok (.bipush 59, 2) := by decide +kernel
theorem dX10_sign_14 : decode cX10_sign 14 = .ok (.if_icmp .eq 57, 3) := by decide +kernel
theorem dX10_sign_17 : decode cX10_sign 17 = .ok (.iload_n 1, 1) := by decide +kernel
theorem dX10_sign_18 : decode cX10_sign 18 = .ok (.bipush 40, 2) := by decide +kernel
theorem dX10_sign_20 : decode cX10_sign 20 = .ok (.if_icmp .eq 51, 3) := by decide +kernel
theorem dX10_sign_23 : decode cX10_sign 23 = .ok (.iload_n 1, 1) := by decide +kernel
theorem dX10_sign_24 : decode cX10_sign 24 = .ok (.bipush 41, 2) := by decide +kernel
theorem dX10_sign_26 : decode cX10_sign 26 = .ok (.if_icmp .eq 45, 3) := by decide +kernel
theorem dX10_sign_29 : decode cX10_sign 29 = .ok (.iload_n 1, 1) := by decide +kernel
theorem dX10_sign_30 : decode cX10_sign 30 = .ok (.bipush 43, 2) := by decide +kernel
theorem dX10_sign_32 : decode cX10_sign 32 = .ok (.if_icmp .eq 39, 3) := by decide +kernel
theorem dX10_sign_35 : decode cX10_sign 35 = .ok (.iload_n 1, 1) := by decide +kernel
theorem dX10_sign_36 : decode cX10_sign 36 = .ok (.bipush 45, 2) := by decide +kernel
theorem dX10_sign_38 : decode cX10_sign 38 = .ok (.if_icmp .eq 33, 3) := by decide +kernel
theorem dX10_sign_41 : decode cX10_sign 41 = .ok (.iload_n 1, 1) := by decide +kernel
theorem dX10_sign_42 : decode cX10_sign 42 = .ok (.bipush 42, 2) := by decide +kernel
theorem dX10_sign_44 : decode cX10_sign 44 = .ok (.if_icmp .eq 27, 3) := by decide +kernel
theorem dX10_sign_47 : decode cX10_sign 47 = .ok (.iload_n 1, 1) := by decide +kernel
theorem dX10_sign_48 : decode cX10_sign 48 = .ok (.bipush 47, 2) := by decide +kernel
theorem dX10_sign_50 : decode cX10_sign 50 = .ok (.if_icmp .eq 21, 3) := by decide +kernel
theorem dX10_sign_53 : decode cX10_sign 53 = .ok (.iload_n 1, 1) := by decide +kernel
theorem dX10_sign_54 : decode cX10_sign 54 = .ok (.bipush 60, 2) := by decide +kernel
theorem dX10_sign_56 : decode cX10_sign 56 = .ok (.if_icmp .eq 15, 3) := by decide +kernel
theorem dX10_sign_59 : decode cX10_sign 59 = .ok (.iload_n 1, 1) := by decide +kernel
theorem dX10_sign_60 : decode cX10_sign 60 = .ok (.bipush 61, 2) := by decide +kernel
theorem dX10_sign_62 : decode cX10_sign 62 = .ok (.if_icmp .eq 9, 3) := by decide +kernel
theorem dX10_sign_65 : decode cX10_sign 65 = .ok (.iload_n 1, 1) := by decide +kernel
theorem dX10_sign_66 : decode cX10_sign 66 = .ok (.bipush 62, 2) := by decide +kernel
theorem dX10_sign_68 : decode cX10_sign 68 = .ok (.if_icmp .ne 7, 3) := by decide +kernel
theorem dX10_sign_71 : decode cX10_sign 71 = .ok (.iconst 3, 1) := by decide +kernel
theorem dX10_sign_72 : decode cX10_sign 72 = .ok (.goto 4, 3) := by decide +kernel
theorem dX10_sign_75 : decode cX10_sign 75 = .ok (.iconst 5, 1) := by decide +kernel
theorem dX10_sign_76 : decode cX10_sign 76 = .ok (.putfield 254, 3) := by decide +kernel
theorem dX10_sign_79 : decode cX10_sign 79 = .ok (.aload_n 0, 1) := by decide +kernel
theorem dX10_sign_80 : decode cX10_sign 80 = .ok (.iload_n 1, 1) := by decide +kernel
theorem dX10_sign_81 : decode cX10_sign 81 = .ok (.putfield 264, 3) := by decide +kernel
theorem dX10_sign_84 : decode cX10_sign 84 = .ok (.iload_n 1, 1) := by decide +kernel
theorem dX10_sign_85 : decode cX10_sign 85 = .ok (.bipush 60, 2) := by decide +kernel
theorem dX10_sign_87 : decode cX10_sign 87 = .ok (.if_icmp .ne 19, 3) := by decide +kernel
theorem dX10_sign_90 : decode cX10_sign 90 = .ok (.aload_n 0, 1) := by decide +kernel
theorem dX10_sign_91 : decode cX10_sign 91 = .ok (.invokevirtual 247, 3) := by decide +kernel
theorem dX10_sign_94 : decode cX10_sign 94 = .ok (.bipush 61, 2) := by decide +kernel
theorem dX10_sign_96 : decode cX10_sign 96 = .ok (.if_icmp .ne 10, 3) := by decide +kernel
theorem dX10_sign_99 : decode cX10_sign 99 = .ok (.aload_n 0, 1) := by decide +kernel
theorem dX10_sign_100 : decode cX10_sign 100 = .ok (.sipush 256, 3) := by decide +kernel
theorem dX10_sign_103 : decode cX10_sign 103 = .ok (.putfield 264, 3) := by decide +kernel
theorem dX10_sign_106 : decode cX10_sign 106 = .ok (.iload_n 1, 1) := by decide +kernel
theorem dX10_sign_107 : decode cX10_sign 107 = .ok (.bipush 60, 2) := by decide +kernel
theorem dX10_sign_109 : decode cX10_sign 109 = .ok (.if_icmp .ne 19, 3) := by decide +kernel
theorem dX10_sign_112 : decode cX10_sign 112 = .ok (.aload_n 0, 1) := by decide +kernel
theorem dX10_sign_113 : decode cX10_sign 113 = .ok (.invokevirtual 247, 3) := by decide +kernel
theorem dX10_sign_116 : decode cX10_sign 116 = .ok (.bipush 62, 2) := by decide +kernel
theorem dX10_sign_118 : decode cX10_sign 118 = .ok (.if_icmp .ne 10, 3) := by decide +kernel
theorem dX10_sign_121 : decode cX10_sign 121 = .ok (.aload_n 0, 1) := by decide +kernel
theorem dX10_sign_122 : decode cX10_sign 122 = .ok (.sipush 257, 3) := by decide +kernel
theorem dX10_sign_125 : decode cX10_sign 125 = .ok (.putfield 264, 3) := by decide +kernel
theorem dX10_sign_128 : decode cX10_sign 128 = .ok (.iload_n 1, 1) := by decide +kernel
theorem dX10_sign_129 : decode cX10_sign 129 = .ok (.bipush 62, 2) := by decide +kernel
theorem dX10_sign_131 : decode cX10_sign 131 = .ok (.if_icmp .ne 19, 3) := by decide +kernel
theorem dX10_sign_134 : decode cX10_sign 134 = .ok (.aload_n 0, 1) := by decide +kernel
theorem dX10_sign_135 : decode cX10_sign 135 = .ok (.invokevirtual 247, 3) := by decide +kernel
theorem dX10_sign_138 : decode cX10_sign 138 = .ok (.bipush 61, 2) := by decide +kernel
theorem dX10_sign_140 : decode cX10_sign 140 = .ok (.if_icmp .ne 10, 3) := by decide +kernel
theorem dX10_sign_143 : decode cX10_sign 143 = .ok (.aload_n 0, 1) := by decide +kernel
theorem dX10_sign_144 : decode cX10_sign 144 = .ok (.sipush 258, 3) := by decide +kernel
theorem dX10_sign_147 : decode cX10_sign 147 = .ok (.putfield 264, 3) := by decide +kernel
theorem dX10_sign_150 : decode cX10_sign 150 = .ok (.aload_n 0, 1) := by decide +kernel
theorem dX10_sign_151 : decode cX10_sign 151 = .ok (.getfield 264, 3) := by decide +kernel
theorem dX10_sign_154 : decode cX10_sign 154 = .ok (.sipush 256, 3) := by decide +kernel
theorem dX10_sign_157 : decode cX10_sign 157 = .ok (.if_icmp .lt 13, 3) := by decide +kernel
theorem dX10_sign_160 : decode cX10_sign 160 = .ok (.aload_n 0, 1) := by decide +kernel
theorem dX10_sign_161 : decode cX10_sign 161 = .ok (.dup, 1) := by decide +kernel
theorem dX10_sign_162 : decode cX10_sign 162 = .ok (.getfield 241, 3) := by decide +kernel
theorem dX10_sign_165 : decode cX10_sign 165 = .ok (.iconst 1, 1) := by decide +kernel
theorem dX10_sign_166 : decode cX10_sign 166 = .ok (.iadd, 1) := by decide +kernel
theorem dX10_sign_167 : decode cX10_sign 167 = .ok (.putfield 241, 3) := by decide +kernel
theorem dX10_sign_170 : decode cX10_sign 170 = .ok (.return_, 1) := by decide +kernel
theorem dX10_word_0 : decode cX10_word 0 = .ok (.iconst 0, 1) := by decide +kernel
theorem dX10_word_1 : decode cX10_word 1 = .ok (.istore_n 1, 1) := by decide +kernel
theorem dX10_word_2 : decode cX10_word 2 = .ok (.iconst 0, 1) := by decide +kernel
theorem dX10_word_3 : decode cX10_word 3 = .ok (.istore_n 2, 1) := by decide +kernel
theorem dX10_word_4 : decode cX10_word 4 = .ok (.iload_n 2, 1) := by decide +kernel
theorem dX10_word_5 : decode cX10_word 5 = .ok (.ldc_w 278, 3) := by decide +kernel
theorem dX10_word_8 : decode cX10_word 8 = .ok (.invokevirtual 280, 3) := by decide +kernel
theorem dX10_word_11 : decode cX10_word 11 = .ok (.if_icmp .ge 117, 3) := by decide +kernel
theorem dX10_word_14 : decode cX10_word 14 = .ok (.iconst 0, 1) := by decide +kernel
theorem dX10_word_15 : decode cX10_word 15 = .ok (.istore_n 3, 1) := by decide +kernel
theorem dX10_word_16 : decode cX10_word 16 = .ok (.ldc_w 278, 3) := by decide +kernel
theorem dX10_word_19 : decode cX10_word 19 = .ok (.iload_n 2, 1) := by decide +kernel
theorem dX10_word_20 : decode cX10_word 20 = .ok (.iload_n 3, 1) := by decide +kernel
theorem dX10_word_21 : decode cX10_word 21 = .ok (.iadd, 1) := by decide +kernel
theorem dX10_word_22 : decode cX10_word 22 = .ok (.invokevirtual 285, 3) := by decide +kernel
theorem dX10_word_25 : decode cX10_word 25 = .ok (.bipush 32, 2) := by decide +kernel
theorem dX10_word_27 : decode cX10_word 27 = .ok (.if_icmp .eq 45, 3) := by decide +kernel
theorem dX10_word_30 : decode cX10_word 30 = .ok (.aload_n 0, 1) := by decide +kernel
theorem dX10_word_31 : decode cX10_word 31 = .ok (.getfield 251, 3) := by decide +kernel
theorem dX10_word_34 : decode cX10_word 34 = .ok (.iload_n 3, 1) := by decide +kernel
theorem dX10_word_35 : decode cX10_word 35 = .ok (.iadd, 1) := by decide +kernel
theorem dX10_word_36 : decode cX10_word 36 = .ok (.aload_n 0, 1) := by decide +kernel
theorem dX10_word_37 : decode cX10_word 37 = .ok (.getfield 241, 3) := by decide +kernel
theorem dX10_word_40 : decode cX10_word 40 = .ok (.if_icmp .ge 32, 3) := by decide +kernel
theorem dX10_word_43 : decode cX10_word 43 = .ok (.aload_n 0, 1) := by decide +kernel
theorem dX10_word_44 : decode cX10_word 44 = .ok (.getfield 7, 3) := by decide +kernel
theorem dX10_word_47 : decode cX10_word 47 = .ok (.aload_n 0, 1) := by decide +kernel
theorem dX10_word_48 : decode cX10_word 48 = .ok (.getfield 251, 3) := by decide +kernel
theorem dX10_word_51 : decode cX10_word 51 = .ok (.iload_n 3, 1) := by decide +kernel
theorem dX10_word_52 : decode cX10_word 52 = .ok (.iadd, 1) := by decide +kernel
theorem dX10_word_53 : decode cX10_word 53 = .ok (.iaload, 1) := by decide +kernel
theorem dX10_word_54 : decode cX10_word 54 = .ok (.ldc_w 278, 3) := by decide +kernel
theorem dX10_word_57 : decode cX10_word 57 = .ok (.iload_n 2, 1) := by decide +kernel
theorem dX10_word_58 : decode cX10_word 58 = .ok (.iload_n 3, 1) := by decide +kernel
theorem dX10_word_59 : decode cX10_word 59 = .ok (.iadd, 1) := by decide +kernel
theorem dX10_word_60 : decode cX10_word 60 = .ok (.invokevirtual 285, 3) := by decide +kernel
theorem dX10_word_63 : decode cX10_word 63 = .ok (.if_icmp .ne 9, 3) := by decide +kernel
theorem dX10_word_66 : decode cX10_word 66 = .ok (.iinc 3 1, 3) := by decide +kernel
theorem dX10_word_69 : decode cX10_word 69 = .ok (.goto (-53), 3) := by decide +kernel
theorem dX10_word_72 : decode cX10_word 72 = .ok (.ldc_w 278, 3) := by decide +kernel
theorem dX10_word_75 : decode cX10_word 75 = .ok (.iload_n 2, 1) := by decide +kernel
theorem dX10_word_76 : decode cX10_word 76 = .ok (.iload_n 3, 1) := by decide +kernel
theorem dX10_word_77 : decode cX10_word 77 = .ok (.iadd, 1) := by decide +kernel
theorem dX10_word_78 : decode cX10_word 78 = .ok (.invokevirtual 285, 3) := by decide +kernel
theorem dX10_word_81 : decode cX10_word 81 = .ok (.bipush 32, 2) := by decide +kernel
theorem dX10_word_83 : decode cX10_word 83 = .ok (.if_icmp .ne 18, 3) := by decide +kernel
theorem dX10_word_86 : decode cX10_word 86 = .ok (.aload_n 0, 1) := by decide +kernel
theorem dX10_word_87 : decode cX10_word 87 = .ok (.getfield 251, 3) := by decide +kernel
theorem dX10_word_90 : decode cX10_word 90 = .ok (.iload_n 3, 1) := by decide +kernel
theorem dX10_word_91 : decode cX10_word 91 = .ok (.iadd, 1) := by decide +kernel
theorem dX10_word_92 : decode cX10_word 92 = .ok (.aload_n 0, 1) := by decide +kernel
theorem dX10_word_93 : decode cX10_word 93 = .ok (.getfield 241, 3) := by decide +kernel
theorem dX10_word_96 : decode cX10_word 96 = .ok (.if_icmp .ne 5, 3) := by decide +kernel
theorem dX10_word_99 : decode cX10_word 99 = .ok (.iload_n 1, 1) := by decide +kernel
theorem dX10_word_100 : decode cX10_word 100 = .ok (.ireturn, 1) := by decide +kernel
theorem dX10_word_101 : decode cX10_word 101 = .ok (.ldc_w 278, 3) := by decide +kernel
theorem dX10_word_104 : decode cX10_word 104 = .ok (.iload_n 2, 1) := by decide +kernel
theorem dX10_word_105 : decode cX10_word 105 = .ok (.invokevirtual 285, 3) := by decide +kernel
theorem dX10_word_108 : decode cX10_word 108 = .ok (.bipush 32, 2) := by decide +kernel
theorem dX10_word_110 : decode cX10_word 110 = .ok (.if_icmp .eq 9, 3) := by decide +kernel
theorem dX10_word_113 : decode cX10_word 113 = .ok (.iinc 2 1, 3) := by decide +kernel
theorem dX10_word_116 : decode cX10_word 116 = .ok (.goto (-15), 3) := by decide +kernel
theorem dX10_word_119 : decode cX10_word 119 = .ok (.iinc 2 1, 3) := by decide +kernel
theorem dX10_word_122 : decode cX10_word 122 = .ok (.iinc 1 1, 3) := by decide +kernel
theorem dX10_word_125 : decode cX10_word 125 = .ok (.goto (-121), 3) := by decide +kernel
theorem dX10_word_128 : decode cX10_word 128 = .ok (.iconst (-1), 1) := by decide +kernel
theorem dX10_word_129 : decode cX10_word 129 = .ok (.ireturn, 1) := by decide +kernel
theorem dX10_name_0 : decode cX10_name 0 = .ok (.aload_n 0, 1) := by decide +kernel
theorem dX10_name_1 : decode cX10_name 1 = .ok (.iconst 0, 1) := by decide +kernel
theorem dX10_name_2 : decode cX10_name 2 = .ok (.putfield 264, 3) := by decide +kernel
theorem dX10_name_5 : decode cX10_name 5 = .ok (.iconst 0, 1) := by decide +kernel
theorem dX10_name_6 : decode cX10_name 6 = .ok (.istore_n 1, 1) := by decide +kernel
theorem dX10_name_7 : decode cX10_name 7 = .ok (.iload_n 1, 1) := by decide +kernel
theorem dX10_name_8 : decode cX10_name 8 = .ok (.bipush 6, 2) := by decide +kernel
theorem dX10_name_10 : decode cX10_name 10 = .ok (.if_icmp .ge 53, 3) := by decide +kernel
theorem dX10_name_13 : decode cX10_name 13 = .ok (.aload_n 0, 1) := by decide +kernel
theorem dX10_name_14 : decode cX10_name 14 = .ok (.aload_n 0, 1) := by decide +kernel
theorem dX10_name_15 : decode cX10_name 15 = .ok (.getfield 264, 3) := by decide +kernel
theorem dX10_name_18 : decode cX10_name 18 = .ok (.iconst 5, 1) := by decide +kernel
theorem dX10_name_19 : decode cX10_name 19 = .ok (.ishl, 1) := by decide +kernel
theorem dX10_name_20 : decode cX10_name 20 = .ok (.aload_n 0, 1) := by decide +kernel
theorem dX10_name_21 : decode cX10_name 21 = .ok (.getfield 251, 3) := by decide +kernel
theorem dX10_name_24 : decode cX10_name 24 = .ok (.iload_n 1, 1) := by decide +kernel
theorem dX10_name_25 : decode cX10_name 25 = .ok (.iadd, 1) := by decide +kernel
theorem dX10_name_26 : decode cX10_name 26 = .ok (.aload_n 0, 1) := by decide +kernel
theorem dX10_name_27 : decode cX10_name 27 = .ok (.getfield 241, 3) := by decide +kernel
theorem dX10_name_30 : decode cX10_name 30 = .ok (.if_icmp .ge 22, 3) := by decide +kernel
theorem dX10_name_33 : decode cX10_name 33 = .ok (.aload_n 0, 1) := by decide +kernel
theorem dX10_name_34 : decode cX10_name 34 = .ok (.getfield 7, 3) := by decide +kernel
theorem dX10_name_37 : decode cX10_name 37 = .ok (.aload_n 0, 1) := by decide +kernel
theorem dX10_name_38 : decode cX10_name 38 = .ok (.getfield 251, 3) := by decide +kernel
theorem dX10_name_41 : decode cX10_name 41 = .ok (.iload_n 1, 1) := by decide +kernel
theorem dX10_name_42 : decode cX10_name 42 = .ok (.iadd, 1) := by decide +kernel
theorem dX10_name_43 : decode cX10_name 43 = .ok (.iaload, 1) := by decide +kernel
theorem dX10_name_44 : decode cX10_name 44 = .ok (.bipush 97, 2) := by decide +kernel
theorem dX10_name_46 : decode cX10_name 46 = .ok (.isub, 1) := by decide +kernel
theorem dX10_name_47 : decode cX10_name 47 = .ok (.iconst 1, 1) := by decide +kernel
theorem dX10_name_48 : decode cX10_name 48 = .ok (.iadd, 1) := by decide +kernel
theorem dX10_name_49 : decode cX10_name 49 = .ok (.goto 4, 3) := by decide +kernel
theorem dX10_name_52 : decode cX10_name 52 = .ok (.iconst 0, 1) := by decide +kernel
theorem dX10_name_53 : decode cX10_name 53 = .ok (.ior, 1) := by decide +kernel
theorem dX10_name_54 : decode cX10_name 54 = .ok (.putfield 264, 3) := by decide +kernel
theorem dX10_name_57 : decode cX10_name 57 = .ok (.iinc 1 1, 3) := by decide +kernel
theorem dX10_name_60 : decode cX10_name 60 = .ok (.goto (-53), 3) := by decide +kernel
theorem dX10_name_63 : decode cX10_name 63 = .ok (.return_, 1) := by decide +kernel
theorem dX10_wrong_0 : decode cX10_wrong 0 = .ok (.aload_n 0, 1) := by decide +kernel
theorem dX10_wrong_1 : decode cX10_wrong 1 = .ok (.getfield 289, 3) := by decide +kernel
theorem dX10_wrong_4 : decode cX10_wrong 4 = .ok (.ifCond .eq 4, 3) := by decide +kernel
theorem dX10_wrong_7 : decode cX10_wrong 7 = .ok (.return_, 1) := by decide +kernel
theorem dX10_wrong_8 : decode cX10_wrong 8 = .ok (.aload_n 0, 1) := by decide +kernel
theorem dX10_wrong_9 : decode cX10_wrong 9 = .ok (.iload_n 1, 1) := by decide +kernel
theorem dX10_wrong_10 : decode cX10_wrong 10 = .ok (.putfield 289, 3) := by decide +kernel
theorem dX10_wrong_13 : decode cX10_wrong 13 = .ok (.aload_n 0, 1) := by decide +kernel
theorem dX10_wrong_14 : decode cX10_wrong 14 = .ok (.aload_n 0, 1) := by decide +kernel
theorem dX10_wrong_15 : decode cX10_wrong 15 = .ok (.getfield 251, 3) := by decide +kernel
theorem dX10_wrong_18 : decode cX10_wrong 18 = .ok (.putfield 292, 3) := by decide +kernel
theorem dX10_wrong_21 : decode cX10_wrong 21 = .ok (.return_, 1) := by decide +kernel
theorem dX10_isWord_0 : decode cX10_isWord 0 = .ok (.aload_n 0, 1) := by decide +kernel
theorem dX10_isWord_1 : decode cX10_isWord 1 = .ok (.getfield 289, 3) := by decide +kernel
theorem dX10_isWord_4 : decode cX10_isWord 4 = .ok (.ifCond .ne 22, 3) := by decide +kernel
theorem dX10_isWord_7 : decode cX10_isWord 7 = .ok (.aload_n 0, 1) := by decide +kernel
theorem dX10_isWord_8 : decode cX10_isWord 8 = .ok (.getfield 254, 3) := by decide +kernel
theorem dX10_isWord_11 : decode cX10_isWord 11 = .ok (.ifCond .ne 15, 3) := by decide +kernel
theorem dX10_isWord_14 : decode cX10_isWord 14 = .ok (.aload_n 0, 1) := by decide +kernel
theorem dX10_isWord_15 : decode cX10_isWord 15 = .ok (.getfield 264, 3) := by decide +kernel
theorem dX10_isWord_18 : decode cX10_isWord 18 = .ok (.iload_n 1, 1) := by decide +kernel
theorem dX10_isWord_19 : decode cX10_isWord 19 = .ok (.if_icmp .ne 7, 3) := by decide +kernel
theorem dX10_isWord_22 : decode cX10_isWord 22 = .ok (.iconst 1, 1) := by decide +kernel
theorem dX10_isWord_23 : decode cX10_isWord 23 = .ok (.goto 4, 3) := by decide +kernel
theorem dX10_isWord_26 : decode cX10_isWord 26 = .ok (.iconst 0, 1) := by decide +kernel
theorem dX10_isWord_27 : decode cX10_isWord 27 = .ok (.ireturn, 1) := by decide +kernel
theorem dX10_isSign_0 : decode cX10_isSign 0 = .ok (.aload_n 0, 1) := by decide +kernel
theorem dX10_isSign_1 : decode cX10_isSign 1 = .ok (.getfield 289, 3) := by decide +kernel
theorem dX10_isSign_4 : decode cX10_isSign 4 = .ok (.ifCond .ne 23, 3) := by decide +kernel
theorem dX10_isSign_7 : decode cX10_isSign 7 = .ok (.aload_n 0, 1) := by decide +kernel
theorem dX10_isSign_8 : decode cX10_isSign 8 = .ok (.getfield 254, 3) := by decide +kernel
theorem dX10_isSign_11 : decode cX10_isSign 11 = .ok (.iconst 3, 1) := by decide +kernel
theorem dX10_isSign_12 : decode cX10_isSign 12 = .ok (.if_icmp .ne 15, 3) := by decide +kernel
theorem dX10_isSign_15 : decode cX10_isSign 15 = .ok (.aload_n 0, 1) := by decide +kernel
theorem dX10_isSign_16 : decode cX10_isSign 16 = .ok (.getfield 264, 3) := by decide +kernel
theorem dX10_isSign_19 : decode cX10_isSign 19 = .ok (.iload_n 1, 1) := by decide +kernel
theorem dX10_isSign_20 : decode cX10_isSign 20 = .ok (.if_icmp .ne 7, 3) := by decide +kernel
theorem dX10_isSign_23 : decode cX10_isSign 23 = .ok (.iconst 1, 1) := by decide +kernel
theorem dX10_isSign_24 : decode cX10_isSign 24 = .ok (.goto 4, 3) := by decide +kernel
