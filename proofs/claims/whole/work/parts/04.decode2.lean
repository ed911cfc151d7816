theorem dX5_nextToken_160 : decode cX5_nextToken 160 = .ok (.aload_n 0, 1) := by decide +kernel
theorem dX5_nextToken_161 : decode cX5_nextToken 161 = .ok (.aload_n 0, 1) := by decide +kernel
theorem dX5_nextToken_162 : decode cX5_nextToken 162 = .ok (.getfield 123, 3) := by decide +kernel
theorem dX5_nextToken_165 : decode cX5_nextToken 165 = .ok (.iconst 1, 1) := by decide +kernel
theorem dX5_nextToken_166 : decode cX5_nextToken 166 = .ok (.iadd, 1) := by decide +kernel
theorem dX5_nextToken_167 : decode cX5_nextToken 167 = .ok (.putfield 31, 3) := by decide +kernel
theorem dX5_nextToken_170 : decode cX5_nextToken 170 = .ok (.iload_n 1, 1) := by decide +kernel
theorem dX5_nextToken_171 : decode cX5_nextToken 171 = .ok (.bipush 59, 2) := by decide +kernel
theorem dX5_nextToken_173 : decode cX5_nextToken 173 = .ok (.if_icmp .eq 11, 3) := by decide +kernel
theorem dX5_nextToken_176 : decode cX5_nextToken 176 = .ok (.aload_n 0, 1) := by decide +kernel
theorem dX5_nextToken_177 : decode cX5_nextToken 177 = .ok (.iconst 1, 1) := by decide +kernel
theorem dX5_nextToken_178 : decode cX5_nextToken 178 = .ok (.invokevirtual 69, 3) := by decide +kernel
theorem dX5_nextToken_181 : decode cX5_nextToken 181 = .ok (.ifCond .eq 7, 3) := by decide +kernel
theorem dX5_nextToken_184 : decode cX5_nextToken 184 = .ok (.iconst 1, 1) := by decide +kernel
theorem dX5_nextToken_185 : decode cX5_nextToken 185 = .ok (.goto 4, 3) := by decide +kernel
theorem dX5_nextToken_188 : decode cX5_nextToken 188 = .ok (.iconst 0, 1) := by decide +kernel
theorem dX5_nextToken_189 : decode cX5_nextToken 189 = .ok (.ireturn, 1) := by decide +kernel
theorem dX5_numberHere_0 : decode cX5_numberHere 0 = .ok (.aload_n 0, 1) := by decide +kernel
theorem dX5_numberHere_1 : decode cX5_numberHere 1 = .ok (.getfield 9, 3) := by decide +kernel
theorem dX5_numberHere_4 : decode cX5_numberHere 4 = .ok (.aload_n 0, 1) := by decide +kernel
theorem dX5_numberHere_5 : decode cX5_numberHere 5 = .ok (.getfield 123, 3) := by decide +kernel
theorem dX5_numberHere_8 : decode cX5_numberHere 8 = .ok (.iaload, 1) := by decide +kernel
theorem dX5_numberHere_9 : decode cX5_numberHere 9 = .ok (.bipush 48, 2) := by decide +kernel
theorem dX5_numberHere_11 : decode cX5_numberHere 11 = .ok (.isub, 1) := by decide +kernel
theorem dX5_numberHere_12 : decode cX5_numberHere 12 = .ok (.istore_n 1, 1) := by decide +kernel
theorem dX5_numberHere_13 : decode cX5_numberHere 13 = .ok (.aload_n 0, 1) := by decide +kernel
theorem dX5_numberHere_14 : decode cX5_numberHere 14 = .ok (.getfield 31, 3) := by decide +kernel
theorem dX5_numberHere_17 : decode cX5_numberHere 17 = .ok (.aload_n 0, 1) := by decide +kernel
theorem dX5_numberHere_18 : decode cX5_numberHere 18 = .ok (.getfield 123, 3) := by decide +kernel
theorem dX5_numberHere_21 : decode cX5_numberHere 21 = .ok (.isub, 1) := by decide +kernel
theorem dX5_numberHere_22 : decode cX5_numberHere 22 = .ok (.iconst 2, 1) := by decide +kernel
theorem dX5_numberHere_23 : decode cX5_numberHere 23 = .ok (.if_icmp .ne 25, 3) := by decide +kernel
theorem dX5_numberHere_26 : decode cX5_numberHere 26 = .ok (.bipush 10, 2) := by decide +kernel
theorem dX5_numberHere_28 : decode cX5_numberHere 28 = .ok (.iload_n 1, 1) := by decide +kernel
theorem dX5_numberHere_29 : decode cX5_numberHere 29 = .ok (.imul, 1) := by decide +kernel
theorem dX5_numberHere_30 : decode cX5_numberHere 30 = .ok (.aload_n 0, 1) := by decide +kernel
theorem dX5_numberHere_31 : decode cX5_numberHere 31 = .ok (.getfield 9, 3) := by decide +kernel
theorem dX5_numberHere_34 : decode cX5_numberHere 34 = .ok (.aload_n 0, 1) := by decide +kernel
theorem dX5_numberHere_35 : decode cX5_numberHere 35 = .ok (.getfield 123, 3) := by decide +kernel
theorem dX5_numberHere_38 : decode cX5_numberHere 38 = .ok (.iconst 1, 1) := by decide +kernel
theorem dX5_numberHere_39 : decode cX5_numberHere 39 = .ok (.iadd, 1) := by decide +kernel
theorem dX5_numberHere_40 : decode cX5_numberHere 40 = .ok (.iaload, 1) := by decide +kernel
theorem dX5_numberHere_41 : decode cX5_numberHere 41 = .ok (.iadd, 1) := by decide +kernel
theorem dX5_numberHere_42 : decode cX5_numberHere 42 = .ok (.bipush 48, 2) := by decide +kernel
theorem dX5_numberHere_44 : decode cX5_numberHere 44 = .ok (.isub, 1) := by decide +kernel
theorem dX5_numberHere_45 : decode cX5_numberHere 45 = .ok (.goto 4, 3) := by decide +kernel
theorem dX5_numberHere_48 : decode cX5_numberHere 48 = .ok (.iload_n 1, 1) := by decide +kernel
theorem dX5_numberHere_49 : decode cX5_numberHere 49 = .ok (.ireturn, 1) := by decide +kernel
theorem dX5_endOf_0 : decode cX5_endOf 0 = .ok (.iload_n 3, 1) := by decide +kernel
theorem dX5_endOf_1 : decode cX5_endOf 1 = .ok (.istore 4, 2) := by decide +kernel
theorem dX5_endOf_3 : decode cX5_endOf 3 = .ok (.iload 4, 2) := by decide +kernel
theorem dX5_endOf_5 : decode cX5_endOf 5 = .ok (.aload_n 0, 1) := by decide +kernel
theorem dX5_endOf_6 : decode cX5_endOf 6 = .ok (.getfield 15, 3) := by decide +kernel
theorem dX5_endOf_9 : decode cX5_endOf 9 = .ok (.if_icmp .ge 34, 3) := by decide +kernel
theorem dX5_endOf_12 : decode cX5_endOf 12 = .ok (.aload_n 0, 1) := by decide +kernel
theorem dX5_endOf_13 : decode cX5_endOf 13 = .ok (.getfield 9, 3) := by decide +kernel
theorem dX5_endOf_16 : decode cX5_endOf 16 = .ok (.iload 4, 2) := by decide +kernel
theorem dX5_endOf_18 : decode cX5_endOf 18 = .ok (.iaload, 1) := by decide +kernel
theorem dX5_endOf_19 : decode cX5_endOf 19 = .ok (.iload_n 1, 1) := by decide +kernel
theorem dX5_endOf_20 : decode cX5_endOf 20 = .ok (.if_icmp .lt 14, 3) := by decide +kernel
theorem dX5_endOf_23 : decode cX5_endOf 23 = .ok (.aload_n 0, 1) := by decide +kernel
theorem dX5_endOf_24 : decode cX5_endOf 24 = .ok (.getfield 9, 3) := by decide +kernel
theorem dX5_endOf_27 : decode cX5_endOf 27 = .ok (.iload 4, 2) := by decide +kernel
theorem dX5_endOf_29 : decode cX5_endOf 29 = .ok (.iaload, 1) := by decide +kernel
theorem dX5_endOf_30 : decode cX5_endOf 30 = .ok (.iload_n 2, 1) := by decide +kernel
theorem dX5_endOf_31 : decode cX5_endOf 31 = .ok (.if_icmp .le 6, 3) := by decide +kernel
theorem dX5_endOf_34 : decode cX5_endOf 34 = .ok (.iload 4, 2) := by decide +kernel
theorem dX5_endOf_36 : decode cX5_endOf 36 = .ok (.ireturn, 1) := by decide +kernel
theorem dX5_endOf_37 : decode cX5_endOf 37 = .ok (.iinc 4 1, 3) := by decide +kernel
theorem dX5_endOf_40 : decode cX5_endOf 40 = .ok (.goto (-37), 3) := by decide +kernel
theorem dX5_endOf_43 : decode cX5_endOf 43 = .ok (.aload_n 0, 1) := by decide +kernel
theorem dX5_endOf_44 : decode cX5_endOf 44 = .ok (.getfield 15, 3) := by decide +kernel
theorem dX5_endOf_47 : decode cX5_endOf 47 = .ok (.ireturn, 1) := by decide +kernel
theorem dX5_wordHere_0 : decode cX5_wordHere 0 = .ok (.aload_n 0, 1) := by decide +kernel
theorem dX5_wordHere_1 : decode cX5_wordHere 1 = .ok (.getfield 46, 3) := by decide +kernel
theorem dX5_wordHere_4 : decode cX5_wordHere 4 = .ok (.iconst 1, 1) := by decide +kernel
theorem dX5_wordHere_5 : decode cX5_wordHere 5 = .ok (.if_icmp .ne 30, 3) := by decide +kernel
theorem dX5_wordHere_8 : decode cX5_wordHere 8 = .ok (.iconst 0, 1) := by decide +kernel
theorem dX5_wordHere_9 : decode cX5_wordHere 9 = .ok (.istore_n 1, 1) := by decide +kernel
theorem dX5_wordHere_10 : decode cX5_wordHere 10 = .ok (.iload_n 1, 1) := by decide +kernel
theorem dX5_wordHere_11 : decode cX5_wordHere 11 = .ok (.bipush 13, 2) := by decide +kernel
theorem dX5_wordHere_13 : decode cX5_wordHere 13 = .ok (.if_icmp .ge 22, 3) := by decide +kernel
theorem dX5_wordHere_16 : decode cX5_wordHere 16 = .ok (.aload_n 0, 1) := by decide +kernel
theorem dX5_wordHere_17 : decode cX5_wordHere 17 = .ok (.iload_n 1, 1) := by decide +kernel
theorem dX5_wordHere_18 : decode cX5_wordHere 18 = .ok (.invokestatic 136, 3) := by decide +kernel
theorem dX5_wordHere_21 : decode cX5_wordHere 21 = .ok (.invokevirtual 140, 3) := by decide +kernel
theorem dX5_wordHere_24 : decode cX5_wordHere 24 = .ok (.ifCond .eq 5, 3) := by decide +kernel
theorem dX5_wordHere_27 : decode cX5_wordHere 27 = .ok (.iload_n 1, 1) := by decide +kernel
theorem dX5_wordHere_28 : decode cX5_wordHere 28 = .ok (.ireturn, 1) := by decide +kernel
theorem dX5_wordHere_29 : decode cX5_wordHere 29 = .ok (.iinc 1 1, 3) := by decide +kernel
theorem dX5_wordHere_32 : decode cX5_wordHere 32 = .ok (.goto (-22), 3) := by decide +kernel
theorem dX5_wordHere_35 : decode cX5_wordHere 35 = .ok (.iconst (-1), 1) := by decide +kernel
theorem dX5_wordHere_36 : decode cX5_wordHere 36 = .ok (.ireturn, 1) := by decide +kernel
theorem dX5_isHere_0 : decode cX5_isHere 0 = .ok (.aload_n 1, 1) := by decide +kernel
theorem dX5_isHere_1 : decode cX5_isHere 1 = .ok (.invokevirtual 144, 3) := by decide +kernel
theorem dX5_isHere_4 : decode cX5_isHere 4 = .ok (.aload_n 0, 1) := by decide +kernel
theorem dX5_isHere_5 : decode cX5_isHere 5 = .ok (.getfield 31, 3) := by decide +kernel
theorem dX5_isHere_8 : decode cX5_isHere 8 = .ok (.aload_n 0, 1) := by decide +kernel
theorem dX5_isHere_9 : decode cX5_isHere 9 = .ok (.getfield 123, 3) := by decide +kernel
theorem dX5_isHere_12 : decode cX5_isHere 12 = .ok (.isub, 1) := by decide +kernel
theorem dX5_isHere_13 : decode cX5_isHere 13 = .ok (.if_icmp .eq 5, 3) := by decide +kernel
theorem dX5_isHere_16 : decode cX5_isHere 16 = .ok (.iconst 0, 1) := by decide +kernel
theorem dX5_isHere_17 : decode cX5_isHere 17 = .ok (.ireturn, 1) := by decide +kernel
theorem dX5_isHere_18 : decode cX5_isHere 18 = .ok (.iconst 0, 1) := by decide +kernel
theorem dX5_isHere_19 : decode cX5_isHere 19 = .ok (.istore_n 2, 1) := by decide +kernel
theorem dX5_isHere_20 : decode cX5_isHere 20 = .ok (.iload_n 2, 1) := by decide +kernel
theorem dX5_isHere_21 : decode cX5_isHere 21 = .ok (.aload_n 1, 1) := by decide +kernel
theorem dX5_isHere_22 : decode cX5_isHere 22 = .ok (.invokevirtual 144, 3) := by decide +kernel
theorem dX5_isHere_25 : decode cX5_isHere 25 = .ok (.if_icmp .ge 30, 3) := by decide +kernel
theorem dX5_isHere_28 : decode cX5_isHere 28 = .ok (.aload_n 0, 1) := by decide +kernel
theorem dX5_isHere_29 : decode cX5_isHere 29 = .ok (.getfield 9, 3) := by decide +kernel
theorem dX5_isHere_32 : decode cX5_isHere 32 = .ok (.aload_n 0, 1) := by decide +kernel
theorem dX5_isHere_33 : decode cX5_isHere 33 = .ok (.getfield 123, 3) := by decide +kernel
theorem dX5_isHere_36 : decode cX5_isHere 36 = .ok (.iload_n 2, 1) := by decide +kernel
theorem dX5_isHere_37 : decode cX5_isHere 37 = .ok (.iadd, 1) := by decide +kernel
theorem dX5_isHere_38 : decode cX5_isHere 38 = .ok (.iaload, 1) := by decide +kernel
theorem dX5_isHere_39 : decode cX5_isHere 39 = .ok (.aload_n 1, 1) := by decide +kernel
theorem dX5_isHere_40 : decode cX5_isHere 40 = .ok (.iload_n 2, 1) := by decide +kernel
theorem dX5_isHere_41 : decode cX5_isHere 41 = .ok (.invokevirtual 149, 3) := by decide +kernel
theorem dX5_isHere_44 : decode cX5_isHere 44 = .ok (.if_icmp .eq 5, 3) := by decide +kernel
theorem dX5_isHere_47 : decode cX5_isHere 47 = .ok (.iconst 0, 1) := by decide +kernel
theorem dX5_isHere_48 : decode cX5_isHere 48 = .ok (.ireturn, 1) := by decide +kernel
theorem dX5_isHere_49 : decode cX5_isHere 49 = .ok (.iinc 2 1, 3) := by decide +kernel
theorem dX5_isHere_52 : decode cX5_isHere 52 = .ok (.goto (-32), 3) := by decide +kernel
theorem dX5_isHere_55 : decode cX5_isHere 55 = .ok (.iconst 1, 1) := by decide +kernel
theorem dX5_isHere_56 : decode cX5_isHere 56 = .ok (.ireturn, 1) := by decide +kernel
theorem dX5_spelling_0 : decode cX5_spelling 0 = .ok (.iload_n 0, 1) := by decide +kernel
theorem dX5_spelling_1 : decode cX5_spelling 1 = .ok (.tableswitch 99 0 11 #[63, 66, 69, 72, 75, 78, 81, 84, 87, 90, 93, 96], 63) := by decide +kernel
theorem dX5_spelling_64 : decode cX5_spelling 64 = .ok (.ldc 153, 2) := by decide +kernel
theorem dX5_spelling_66 : decode cX5_spelling 66 = .ok (.areturn, 1) := by decide +kernel
theorem dX5_spelling_67 : decode cX5_spelling 67 = .ok (.ldc 154, 2) := by decide +kernel
theorem dX5_spelling_69 : decode cX5_spelling 69 = .ok (.areturn, 1) := by decide +kernel
theorem dX5_spelling_70 : decode cX5_spelling 70 = .ok (.ldc 156, 2) := by decide +kernel
theorem dX5_spelling_72 : decode cX5_spelling 72 = .ok (.areturn, 1) := by decide +kernel
theorem dX5_spelling_73 : decode cX5_spelling 73 = .ok (.ldc 158, 2) := by decide +kernel
theorem dX5_spelling_75 : decode cX5_spelling 75 = .ok (.areturn, 1) := by decide +kernel
theorem dX5_spelling_76 : decode cX5_spelling 76 = .ok (.ldc 160, 2) := by decide +kernel
theorem dX5_spelling_78 : decode cX5_spelling 78 = .ok (.areturn, 1) := by decide +kernel
theorem dX5_spelling_79 : decode cX5_spelling 79 = .ok (.ldc 162, 2) := by decide +kernel
theorem dX5_spelling_81 : decode cX5_spelling 81 = .ok (.areturn, 1) := by decide +kernel
theorem dX5_spelling_82 : decode cX5_spelling 82 = .ok (.ldc 164, 2) := by decide +kernel
theorem dX5_spelling_84 : decode cX5_spelling 84 = .ok (.areturn, 1) := by decide +kernel
theorem dX5_spelling_85 : decode cX5_spelling 85 = .ok (.ldc 166, 2) := by decide +kernel
theorem dX5_spelling_87 : decode cX5_spelling 87 = .ok (.areturn, 1) := by decide +kernel
theorem dX5_spelling_88 : decode cX5_spelling 88 = .ok (.ldc 168, 2) := by decide +kernel
theorem dX5_spelling_90 : decode cX5_spelling 90 = .ok (.areturn, 1) := by decide +kernel
theorem dX5_spelling_91 : decode cX5_spelling 91 = .ok (.ldc 170, 2) := by decide +kernel
theorem dX5_spelling_93 : decode cX5_spelling 93 = .ok (.areturn, 1) := by decide +kernel
theorem dX5_spelling_94 : decode cX5_spelling 94 = .ok (.ldc 172, 2) := by decide +kernel
theorem dX5_spelling_96 : decode cX5_spelling 96 = .ok (.areturn, 1) := by decide +kernel
theorem dX5_spelling_97 : decode cX5_spelling 97 = .ok (.ldc 174, 2) := by decide +kernel
theorem dX5_spelling_99 : decode cX5_spelling 99 = .ok (.areturn, 1) := by decide +kernel
theorem dX5_spelling_100 : decode cX5_spelling 100 = .ok (.ldc 176, 2) := by decide +kernel
theorem dX5_spelling_102 : decode cX5_spelling 102 = .ok (.areturn, 1) := by decide +kernel
theorem dX6_init_0 : decode cX6_init 0 = .ok (.aload_n 0, 1) := by decide +kernel
theorem dX6_init_1 : decode cX6_init 1 = .ok (.invokespecial 3, 3) := by decide +kernel
theorem dX6_init_4 : decode cX6_init 4 = .ok (.aload_n 0, 1) := by decide +kernel
theorem dX6_init_5 : decode cX6_init 5 = .ok (.aload_n 1, 1) := by decide +kernel
theorem dX6_init_6 : decode cX6_init 6 = .ok (.putfield 9, 3) := by decide +kernel
theorem dX6_init_9 : decode cX6_init 9 = .ok (.aload_n 0, 1) := by decide +kernel
theorem dX6_init_10 : decode cX6_init 10 = .ok (.aload_n 2, 1) := by decide +kernel
theorem dX6_init_11 : decode cX6_init 11 = .ok (.putfield 15, 3) := by decide +kernel
theorem dX6_init_14 : decode cX6_init 14 = .ok (.return_, 1) := by decide +kernel
theorem dX6_fewestGuards_0 : decode cX6_fewestGuards 0 = .ok (.aload_n 0, 1) := by decide +kernel
theorem dX6_fewestGuards_1 : decode cX6_fewestGuards 1 = .ok (.getfield 9, 3) := by decide +kernel
theorem dX6_fewestGuards_4 : decode cX6_fewestGuards 4 = .ok (.aload_n 1, 1) := by decide +kernel
theorem dX6_fewestGuards_5 : decode cX6_fewestGuards 5 = .ok (.invokevirtual 19, 3) := by decide +kernel
theorem dX6_fewestGuards_8 : decode cX6_fewestGuards 8 = .ok (.bipush (-4), 2) := by decide +kernel
theorem dX6_fewestGuards_10 : decode cX6_fewestGuards 10 = .ok (.istore_n 2, 1) := by decide +kernel
theorem dX6_fewestGuards_11 : decode cX6_fewestGuards 11 = .ok (.iconst 0, 1) := by decide +kernel
theorem dX6_fewestGuards_12 : decode cX6_fewestGuards 12 = .ok (.istore_n 3, 1) := by decide +kernel
theorem dX6_fewestGuards_13 : decode cX6_fewestGuards 13 = .ok (.iload_n 3, 1) := by decide +kernel
theorem dX6_fewestGuards_14 : decode cX6_fewestGuards 14 = .ok (.iconst 1, 1) := by decide +kernel
theorem dX6_fewestGuards_15 : decode cX6_fewestGuards 15 = .ok (.aload_n 1, 1) := by decide +kernel
theorem dX6_fewestGuards_16 : decode cX6_fewestGuards 16 = .ok (.getfield 25, 3) := by decide +kernel
theorem dX6_fewestGuards_19 : decode cX6_fewestGuards 19 = .ok (.ishl, 1) := by decide +kernel
theorem dX6_fewestGuards_20 : decode cX6_fewestGuards 20 = .ok (.if_icmp .ge 55, 3) := by decide +kernel
theorem dX6_fewestGuards_23 : decode cX6_fewestGuards 23 = .ok (.aload_n 0, 1) := by decide +kernel
theorem dX6_fewestGuards_24 : decode cX6_fewestGuards 24 = .ok (.iload_n 3, 1) := by decide +kernel
theorem dX6_fewestGuards_25 : decode cX6_fewestGuards 25 = .ok (.iload_n 2, 1) := by decide +kernel
theorem dX6_fewestGuards_26 : decode cX6_fewestGuards 26 = .ok (.invokevirtual 29, 3) := by decide +kernel
theorem dX6_fewestGuards_29 : decode cX6_fewestGuards 29 = .ok (.ifCond .eq 40, 3) := by decide +kernel
theorem dX6_fewestGuards_32 : decode cX6_fewestGuards 32 = .ok (.aload_n 0, 1) := by decide +kernel
theorem dX6_fewestGuards_33 : decode cX6_fewestGuards 33 = .ok (.getfield 9, 3) := by decide +kernel
theorem dX6_fewestGuards_36 : decode cX6_fewestGuards 36 = .ok (.iload_n 3, 1) := by decide +kernel
theorem dX6_fewestGuards_37 : decode cX6_fewestGuards 37 = .ok (.putfield 33, 3) := by decide +kernel
theorem dX6_fewestGuards_40 : decode cX6_fewestGuards 40 = .ok (.aload_n 0, 1) := by decide +kernel
theorem dX6_fewestGuards_41 : decode cX6_fewestGuards 41 = .ok (.getfield 15, 3) := by decide +kernel
theorem dX6_fewestGuards_44 : decode cX6_fewestGuards 44 = .ok (.aload_n 0, 1) := by decide +kernel
theorem dX6_fewestGuards_45 : decode cX6_fewestGuards 45 = .ok (.getfield 9, 3) := by decide +kernel
theorem dX6_fewestGuards_48 : decode cX6_fewestGuards 48 = .ok (.invokevirtual 36, 3) := by decide +kernel
theorem dX6_fewestGuards_51 : decode cX6_fewestGuards 51 = .ok (.aload_n 0, 1) := by decide +kernel
theorem dX6_fewestGuards_52 : decode cX6_fewestGuards 52 = .ok (.getfield 15, 3) := by decide +kernel
theorem dX6_fewestGuards_55 : decode cX6_fewestGuards 55 = .ok (.getfield 41, 3) := by decide +kernel
theorem dX6_fewestGuards_58 : decode cX6_fewestGuards 58 = .ok (.bipush (-4), 2) := by decide +kernel
theorem dX6_fewestGuards_60 : decode cX6_fewestGuards 60 = .ok (.if_icmp .ne 7, 3) := by decide +kernel
theorem dX6_fewestGuards_63 : decode cX6_fewestGuards 63 = .ok (.iload_n 3, 1) := by decide +kernel
theorem dX6_fewestGuards_64 : decode cX6_fewestGuards 64 = .ok (.goto 4, 3) := by decide +kernel
theorem dX6_fewestGuards_67 : decode cX6_fewestGuards 67 = .ok (.iload_n 2, 1) := by decide +kernel
theorem dX6_fewestGuards_68 : decode cX6_fewestGuards 68 = .ok (.istore_n 2, 1) := by decide +kernel
theorem dX6_fewestGuards_69 : decode cX6_fewestGuards 69 = .ok (.iinc 3 1, 3) := by decide +kernel
theorem dX6_fewestGuards_72 : decode cX6_fewestGuards 72 = .ok (.goto (-59), 3) := by decide +kernel
theorem dX6_fewestGuards_75 : decode cX6_fewestGuards 75 = .ok (.iload_n 2, 1) := by decide +kernel
theorem dX6_fewestGuards_76 : decode cX6_fewestGuards 76 = .ok (.ireturn, 1) := by decide +kernel
theorem dX6_fewestMagpies_0 : decode cX6_fewestMagpies 0 = .ok (.aload_n 1, 1) := by decide +kernel
theorem dX6_fewestMagpies_1 : decode cX6_fewestMagpies 1 = .ok (.invokevirtual 44, 3) := by decide +kernel
theorem dX6_fewestMagpies_4 : decode cX6_fewestMagpies 4 = .ok (.istore_n 2, 1) := by decide +kernel
theorem dX6_fewestMagpies_5 : decode cX6_fewestMagpies 5 = .ok (.bipush (-4), 2) := by decide +kernel
theorem dX6_fewestMagpies_7 : decode cX6_fewestMagpies 7 = .ok (.istore_n 3, 1) := by decide +kernel
theorem dX6_fewestMagpies_8 : decode cX6_fewestMagpies 8 = .ok (.iconst 0, 1) := by decide +kernel
theorem dX6_fewestMagpies_9 : decode cX6_fewestMagpies 9 = .ok (.istore 4, 2) := by decide +kernel
theorem dX6_fewestMagpies_11 : decode cX6_fewestMagpies 11 = .ok (.iload 4, 2) := by decide +kernel
theorem dX6_fewestMagpies_13 : decode cX6_fewestMagpies 13 = .ok (.iconst 1, 1) := by decide +kernel
theorem dX6_fewestMagpies_14 : decode cX6_fewestMagpies 14 = .ok (.aload_n 1, 1) := by decide +kernel
theorem dX6_fewestMagpies_15 : decode cX6_fewestMagpies 15 = .ok (.getfield 25, 3) := by decide +kernel
theorem dX6_fewestMagpies_18 : decode cX6_fewestMagpies 18 = .ok (.ishl, 1) := by decide +kernel
theorem dX6_fewestMagpies_19 : decode cX6_fewestMagpies 19 = .ok (.if_icmp .ge 84, 3) := by decide +kernel
theorem dX6_fewestMagpies_22 : decode cX6_fewestMagpies 22 = .ok (.iload 4, 2) := by decide +kernel
theorem dX6_fewestMagpies_24 : decode cX6_fewestMagpies 24 = .ok (.iload_n 2, 1) := by decide +kernel
theorem dX6_fewestMagpies_25 : decode cX6_fewestMagpies 25 = .ok (.iand, 1) := by decide +kernel
theorem dX6_fewestMagpies_26 : decode cX6_fewestMagpies 26 = .ok (.ifCond .ne 71, 3) := by decide +kernel
theorem dX6_fewestMagpies_29 : decode cX6_fewestMagpies 29 = .ok (.aload_n 0, 1) := by decide +kernel
theorem dX6_fewestMagpies_30 : decode cX6_fewestMagpies 30 = .ok (.iload 4, 2) := by decide +kernel
theorem dX6_fewestMagpies_32 : decode cX6_fewestMagpies 32 = .ok (.iload_n 3, 1) := by decide +kernel
theorem dX6_fewestMagpies_33 : decode cX6_fewestMagpies 33 = .ok (.invokevirtual 29, 3) := by decide +kernel
theorem dX6_fewestMagpies_36 : decode cX6_fewestMagpies 36 = .ok (.ifCond .eq 61, 3) := by decide +kernel
theorem dX6_fewestMagpies_39 : decode cX6_fewestMagpies 39 = .ok (.aload_n 1, 1) := by decide +kernel
theorem dX6_fewestMagpies_40 : decode cX6_fewestMagpies 40 = .ok (.iload 4, 2) := by decide +kernel
theorem dX6_fewestMagpies_42 : decode cX6_fewestMagpies 42 = .ok (.iload_n 2, 1) := by decide +kernel
theorem dX6_fewestMagpies_43 : decode cX6_fewestMagpies 43 = .ok (.ior, 1) := by decide +kernel
theorem dX6_fewestMagpies_44 : decode cX6_fewestMagpies 44 = .ok (.invokevirtual 48, 3) := by decide +kernel
theorem dX6_fewestMagpies_47 : decode cX6_fewestMagpies 47 = .ok (.ifCond .eq 50, 3) := by decide +kernel
theorem dX6_fewestMagpies_50 : decode cX6_fewestMagpies 50 = .ok (.aload_n 0, 1) := by decide +kernel
theorem dX6_fewestMagpies_51 : decode cX6_fewestMagpies 51 = .ok (.getfield 9, 3) := by decide +kernel
theorem dX6_fewestMagpies_54 : decode cX6_fewestMagpies 54 = .ok (.aload_n 1, 1) := by decide +kernel
theorem dX6_fewestMagpies_55 : decode cX6_fewestMagpies 55 = .ok (.invokevirtual 19, 3) := by decide +kernel
theorem dX6_fewestMagpies_58 : decode cX6_fewestMagpies 58 = .ok (.aload_n 0, 1) := by decide +kernel
theorem dX6_fewestMagpies_59 : decode cX6_fewestMagpies 59 = .ok (.getfield 9, 3) := by decide +kernel
theorem dX6_fewestMagpies_62 : decode cX6_fewestMagpies 62 = .ok (.iload 4, 2) := by decide +kernel
theorem dX6_fewestMagpies_64 : decode cX6_fewestMagpies 64 = .ok (.invokevirtual 52, 3) := by decide +kernel
theorem dX6_fewestMagpies_67 : decode cX6_fewestMagpies 67 = .ok (.aload_n 0, 1) := by decide +kernel
theorem dX6_fewestMagpies_68 : decode cX6_fewestMagpies 68 = .ok (.getfield 15, 3) := by decide +kernel
theorem dX6_fewestMagpies_71 : decode cX6_fewestMagpies 71 = .ok (.aload_n 0, 1) := by decide +kernel
theorem dX6_fewestMagpies_72 : decode cX6_fewestMagpies 72 = .ok (.getfield 9, 3) := by decide +kernel
theorem dX6_fewestMagpies_75 : decode cX6_fewestMagpies 75 = .ok (.invokevirtual 36, 3) := by decide +kernel
theorem dX6_fewestMagpies_78 : decode cX6_fewestMagpies 78 = .ok (.aload_n 0, 1) := by decide +kernel
theorem dX6_fewestMagpies_79 : decode cX6_fewestMagpies 79 = .ok (.getfield 15, 3) := by decide +kernel
theorem dX6_fewestMagpies_82 : decode cX6_fewestMagpies 82 = .ok (.getfield 41, 3) := by decide +kernel
theorem dX6_fewestMagpies_85 : decode cX6_fewestMagpies 85 = .ok (.bipush (-4), 2) := by decide +kernel
theorem dX6_fewestMagpies_87 : decode cX6_fewestMagpies 87 = .ok (.if_icmp .ne 8, 3) := by decide +kernel
theorem dX6_fewestMagpies_90 : decode cX6_fewestMagpies 90 = .ok (.iload 4, 2) := by decide +kernel
theorem dX6_fewestMagpies_92 : decode cX6_fewestMagpies 92 = .ok (.goto 4, 3) := by decide +kernel
theorem dX6_fewestMagpies_95 : decode cX6_fewestMagpies 95 = .ok (.iload_n 3, 1) := by decide +kernel
theorem dX6_fewestMagpies_96 : decode cX6_fewestMagpies 96 = .ok (.istore_n 3, 1) := by decide +kernel
theorem dX6_fewestMagpies_97 : decode cX6_fewestMagpies 97 = .ok (.iinc 4 1, 3) := by decide +kernel
theorem dX6_fewestMagpies_100 : decode cX6_fewestMagpies 100 = .ok (.goto (-89), 3) := by decide +kernel
theorem dX6_fewestMagpies_103 : decode cX6_fewestMagpies 103 = .ok (.iload_n 3, 1) := by decide +kernel
theorem dX6_fewestMagpies_104 : decode cX6_fewestMagpies 104 = .ok (.ireturn, 1) := by decide +kernel
theorem dX6_isSmaller_0 : decode cX6_isSmaller 0 = .ok (.iload_n 2, 1) := by decide +kernel
theorem dX6_isSmaller_1 : decode cX6_isSmaller 1 = .ok (.bipush (-4), 2) := by decide +kernel
theorem dX6_isSmaller_3 : decode cX6_isSmaller 3 = .ok (.if_icmp .eq 14, 3) := by decide +kernel
theorem dX6_isSmaller_6 : decode cX6_isSmaller 6 = .ok (.iload_n 1, 1) := by decide +kernel
theorem dX6_isSmaller_7 : decode cX6_isSmaller 7 = .ok (.invokestatic 56, 3) := by decide +kernel
theorem dX6_isSmaller_10 : decode cX6_isSmaller 10 = .ok (.iload_n 2, 1) := by decide +kernel
theorem dX6_isSmaller_11 : decode cX6_isSmaller 11 = .ok (.invokestatic 56, 3) := by decide +kernel
theorem dX6_isSmaller_14 : decode cX6_isSmaller 14 = .ok (.if_icmp .ge 7, 3) := by decide +kernel
theorem dX6_isSmaller_17 : decode cX6_isSmaller 17 = .ok (.iconst 1, 1) := by decide +kernel
theorem dX6_isSmaller_18 : decode cX6_isSmaller 18 = .ok (.goto 4, 3) := by decide +kernel
theorem dX6_isSmaller_21 : decode cX6_isSmaller 21 = .ok (.iconst 0, 1) := by decide +kernel
theorem dX6_isSmaller_22 : decode cX6_isSmaller 22 = .ok (.ireturn, 1) := by decide +kernel
theorem dX6_cheapestGuards_0 : decode cX6_cheapestGuards 0 = .ok (.aload_n 0, 1) := by decide +kernel
theorem dX6_cheapestGuards_1 : decode cX6_cheapestGuards 1 = .ok (.getfield 9, 3) := by decide +kernel
theorem dX6_cheapestGuards_4 : decode cX6_cheapestGuards 4 = .ok (.aload_n 1, 1) := by decide +kernel
theorem dX6_cheapestGuards_5 : decode cX6_cheapestGuards 5 = .ok (.invokevirtual 19, 3) := by decide +kernel
theorem dX6_cheapestGuards_8 : decode cX6_cheapestGuards 8 = .ok (.aload_n 0, 1) := by decide +kernel
theorem dX6_cheapestGuards_9 : decode cX6_cheapestGuards 9 = .ok (.bipush (-4), 2) := by decide +kernel
theorem dX6_cheapestGuards_11 : decode cX6_cheapestGuards 11 = .ok (.putfield 62, 3) := by decide +kernel
theorem dX6_cheapestGuards_14 : decode cX6_cheapestGuards 14 = .ok (.bipush (-4), 2) := by decide +kernel
theorem dX6_cheapestGuards_16 : decode cX6_cheapestGuards 16 = .ok (.istore_n 2, 1) := by decide +kernel
theorem dX6_cheapestGuards_17 : decode cX6_cheapestGuards 17 = .ok (.iconst 0, 1) := by decide +kernel
theorem dX6_cheapestGuards_18 : decode cX6_cheapestGuards 18 = .ok (.istore_n 3, 1) := by decide +kernel
theorem dX6_cheapestGuards_19 : decode cX6_cheapestGuards 19 = .ok (.iload_n 3, 1) := by decide +kernel
theorem dX6_cheapestGuards_20 : decode cX6_cheapestGuards 20 = .ok (.iconst 1, 1) := by decide +kernel
theorem dX6_cheapestGuards_21 : decode cX6_cheapestGuards 21 = .ok (.aload_n 1, 1) := by decide +kernel
theorem dX6_cheapestGuards_22 : decode cX6_cheapestGuards 22 = .ok (.getfield 25, 3) := by decide +kernel
theorem dX6_cheapestGuards_25 : decode cX6_cheapestGuards 25 = .ok (.ishl, 1) := by decide +kernel
theorem dX6_cheapestGuards_26 : decode cX6_cheapestGuards 26 = .ok (.if_icmp .ge 41, 3) := by decide +kernel
theorem dX6_cheapestGuards_29 : decode cX6_cheapestGuards 29 = .ok (.aload_n 0, 1) := by decide +kernel
theorem dX6_cheapestGuards_30 : decode cX6_cheapestGuards 30 = .ok (.getfield 9, 3) := by decide +kernel
theorem dX6_cheapestGuards_33 : decode cX6_cheapestGuards 33 = .ok (.iload_n 3, 1) := by decide +kernel
theorem dX6_cheapestGuards_34 : decode cX6_cheapestGuards 34 = .ok (.putfield 33, 3) := by decide +kernel
theorem dX6_cheapestGuards_37 : decode cX6_cheapestGuards 37 = .ok (.aload_n 0, 1) := by decide +kernel
theorem dX6_cheapestGuards_38 : decode cX6_cheapestGuards 38 = .ok (.getfield 15, 3) := by decide +kernel
theorem dX6_cheapestGuards_41 : decode cX6_cheapestGuards 41 = .ok (.aload_n 0, 1) := by decide +kernel
theorem dX6_cheapestGuards_42 : decode cX6_cheapestGuards 42 = .ok (.getfield 9, 3) := by decide +kernel
theorem dX6_cheapestGuards_45 : decode cX6_cheapestGuards 45 = .ok (.invokevirtual 36, 3) := by decide +kernel
theorem dX6_cheapestGuards_48 : decode cX6_cheapestGuards 48 = .ok (.aload_n 0, 1) := by decide +kernel
theorem dX6_cheapestGuards_49 : decode cX6_cheapestGuards 49 = .ok (.invokevirtual 65, 3) := by decide +kernel
theorem dX6_cheapestGuards_52 : decode cX6_cheapestGuards 52 = .ok (.ifCond .eq 7, 3) := by decide +kernel
theorem dX6_cheapestGuards_55 : decode cX6_cheapestGuards 55 = .ok (.iload_n 3, 1) := by decide +kernel
theorem dX6_cheapestGuards_56 : decode cX6_cheapestGuards 56 = .ok (.goto 4, 3) := by decide +kernel
theorem dX6_cheapestGuards_59 : decode cX6_cheapestGuards 59 = .ok (.iload_n 2, 1) := by decide +kernel
theorem dX6_cheapestGuards_60 : decode cX6_cheapestGuards 60 = .ok (.istore_n 2, 1) := by decide +kernel
theorem dX6_cheapestGuards_61 : decode cX6_cheapestGuards 61 = .ok (.iinc 3 1, 3) := by decide +kernel
theorem dX6_cheapestGuards_64 : decode cX6_cheapestGuards 64 = .ok (.goto (-45), 3) := by decide +kernel
theorem dX6_cheapestGuards_67 : decode cX6_cheapestGuards 67 = .ok (.iload_n 2, 1) := by decide +kernel
theorem dX6_cheapestGuards_68 : decode cX6_cheapestGuards 68 = .ok (.ireturn, 1) := by decide +kernel
theorem dX6_cheapestStarts_0 : decode cX6_cheapestStarts 0 = .ok (.aload_n 0, 1) := by decide +kernel
theorem dX6_cheapestStarts_1 : decode cX6_cheapestStarts 1 = .ok (.getfield 9, 3) := by decide +kernel
theorem dX6_cheapestStarts_4 : decode cX6_cheapestStarts 4 = .ok (.aload_n 1, 1) := by decide +kernel
theorem dX6_cheapestStarts_5 : decode cX6_cheapestStarts 5 = .ok (.invokevirtual 19, 3) := by decide +kernel
theorem dX6_cheapestStarts_8 : decode cX6_cheapestStarts 8 = .ok (.aload_n 0, 1) := by decide +kernel
theorem dX6_cheapestStarts_9 : decode cX6_cheapestStarts 9 = .ok (.bipush (-4), 2) := by decide +kernel
theorem dX6_cheapestStarts_11 : decode cX6_cheapestStarts 11 = .ok (.putfield 62, 3) := by decide +kernel
theorem dX6_cheapestStarts_14 : decode cX6_cheapestStarts 14 = .ok (.bipush (-4), 2) := by decide +kernel
theorem dX6_cheapestStarts_16 : decode cX6_cheapestStarts 16 = .ok (.istore_n 2, 1) := by decide +kernel
theorem dX6_cheapestStarts_17 : decode cX6_cheapestStarts 17 = .ok (.iconst 0, 1) := by decide +kernel
theorem dX6_cheapestStarts_18 : decode cX6_cheapestStarts 18 = .ok (.istore_n 3, 1) := by decide +kernel
theorem dX6_cheapestStarts_19 : decode cX6_cheapestStarts 19 = .ok (.iload_n 3, 1) := by decide +kernel
theorem dX6_cheapestStarts_20 : decode cX6_cheapestStarts 20 = .ok (.iconst 1, 1) := by decide +kernel
theorem dX6_cheapestStarts_21 : decode cX6_cheapestStarts 21 = .ok (.iconst 2, 1) := by decide +kernel
theorem dX6_cheapestStarts_22 : decode cX6_cheapestStarts 22 = .ok (.aload_n 1, 1) := by decide +kernel
theorem dX6_cheapestStarts_23 : decode cX6_cheapestStarts 23 = .ok (.getfield 69, 3) := by decide +kernel
theorem dX6_cheapestStarts_26 : decode cX6_cheapestStarts 26 = .ok (.imul, 1) := by decide +kernel
theorem dX6_cheapestStarts_27 : decode cX6_cheapestStarts 27 = .ok (.ishl, 1) := by decide +kernel
theorem dX6_cheapestStarts_28 : decode cX6_cheapestStarts 28 = .ok (.if_icmp .ge 71, 3) := by decide +kernel
theorem dX6_cheapestStarts_31 : decode cX6_cheapestStarts 31 = .ok (.iconst 0, 1) := by decide +kernel
theorem dX6_cheapestStarts_32 : decode cX6_cheapestStarts 32 = .ok (.istore 4, 2) := by decide +kernel
theorem dX6_cheapestStarts_34 : decode cX6_cheapestStarts 34 = .ok (.iload 4, 2) := by decide +kernel
theorem dX6_cheapestStarts_36 : decode cX6_cheapestStarts 36 = .ok (.aload_n 1, 1) := by decide +kernel
theorem dX6_cheapestStarts_37 : decode cX6_cheapestStarts 37 = .ok (.getfield 69, 3) := by decide +kernel
theorem dX6_cheapestStarts_40 : decode cX6_cheapestStarts 40 = .ok (.if_icmp .ge 29, 3) := by decide +kernel
theorem dX6_cheapestStarts_43 : decode cX6_cheapestStarts 43 = .ok (.aload_n 0, 1) := by decide +kernel
theorem dX6_cheapestStarts_44 : decode cX6_cheapestStarts 44 = .ok (.getfield 9, 3) := by decide +kernel
theorem dX6_cheapestStarts_47 : decode cX6_cheapestStarts 47 = .ok (.iload 4, 2) := by decide +kernel
theorem dX6_cheapestStarts_49 : decode cX6_cheapestStarts 49 = .ok (.iconst 2, 1) := by decide +kernel
theorem dX6_cheapestStarts_50 : decode cX6_cheapestStarts 50 = .ok (.iload_n 3, 1) := by decide +kernel
theorem dX6_cheapestStarts_51 : decode cX6_cheapestStarts 51 = .ok (.iload 4, 2) := by decide +kernel
theorem dX6_cheapestStarts_53 : decode cX6_cheapestStarts 53 = .ok (.aload_n 1, 1) := by decide +kernel
theorem dX6_cheapestStarts_54 : decode cX6_cheapestStarts 54 = .ok (.getfield 69, 3) := by decide +kernel
theorem dX6_cheapestStarts_57 : decode cX6_cheapestStarts 57 = .ok (.invokestatic 72, 3) := by decide +kernel
theorem dX6_cheapestStarts_60 : decode cX6_cheapestStarts 60 = .ok (.invokevirtual 76, 3) := by decide +kernel
theorem dX6_cheapestStarts_63 : decode cX6_cheapestStarts 63 = .ok (.iinc 4 1, 3) := by decide +kernel
theorem dX6_cheapestStarts_66 : decode cX6_cheapestStarts 66 = .ok (.goto (-32), 3) := by decide +kernel
theorem dX6_cheapestStarts_69 : decode cX6_cheapestStarts 69 = .ok (.aload_n 0, 1) := by decide +kernel
theorem dX6_cheapestStarts_70 : decode cX6_cheapestStarts 70 = .ok (.getfield 15, 3) := by decide +kernel
theorem dX6_cheapestStarts_73 : decode cX6_cheapestStarts 73 = .ok (.aload_n 0, 1) := by decide +kernel
theorem dX6_cheapestStarts_74 : decode cX6_cheapestStarts 74 = .ok (.getfield 9, 3) := by decide +kernel
theorem dX6_cheapestStarts_77 : decode cX6_cheapestStarts 77 = .ok (.invokevirtual 36, 3) := by decide +kernel
theorem dX6_cheapestStarts_80 : decode cX6_cheapestStarts 80 = .ok (.aload_n 0, 1) := by decide +kernel
theorem dX6_cheapestStarts_81 : decode cX6_cheapestStarts 81 = .ok (.invokevirtual 65, 3) := by decide +kernel
theorem dX6_cheapestStarts_84 : decode cX6_cheapestStarts 84 = .ok (.ifCond .eq 7, 3) := by decide +kernel
theorem dX6_cheapestStarts_87 : decode cX6_cheapestStarts 87 = .ok (.iload_n 3, 1) := by decide +kernel
theorem dX6_cheapestStarts_88 : decode cX6_cheapestStarts 88 = .ok (.goto 4, 3) := by decide +kernel
theorem dX6_cheapestStarts_91 : decode cX6_cheapestStarts 91 = .ok (.iload_n 2, 1) := by decide +kernel
theorem dX6_cheapestStarts_92 : decode cX6_cheapestStarts 92 = .ok (.istore_n 2, 1) := by decide +kernel
theorem dX6_cheapestStarts_93 : decode cX6_cheapestStarts 93 = .ok (.iinc 3 1, 3) := by decide +kernel
theorem dX6_cheapestStarts_96 : decode cX6_cheapestStarts 96 = .ok (.goto (-77), 3) := by decide +kernel
theorem dX6_cheapestStarts_99 : decode cX6_cheapestStarts 99 = .ok (.iload_n 2, 1) := by decide +kernel
theorem dX6_cheapestStarts_100 : decode cX6_cheapestStarts 100 = .ok (.ireturn, 1) := by decide +kernel
theorem dX6_allAreHomeCheaper_0 : decode cX6_allAreHomeCheaper 0 = .ok (.aload_n 0, 1) := by decide +kernel
theorem dX6_allAreHomeCheaper_1 : decode cX6_allAreHomeCheaper 1 = .ok (.getfield 15, 3) := by decide +kernel
theorem dX6_allAreHomeCheaper_4 : decode cX6_allAreHomeCheaper 4 = .ok (.getfield 80, 3) := by decide +kernel
theorem dX6_allAreHomeCheaper_7 : decode cX6_allAreHomeCheaper 7 = .ok (.aload_n 0, 1) := by decide +kernel
theorem dX6_allAreHomeCheaper_8 : decode cX6_allAreHomeCheaper 8 = .ok (.getfield 9, 3) := by decide +kernel
theorem dX6_allAreHomeCheaper_11 : decode cX6_allAreHomeCheaper 11 = .ok (.getfield 69, 3) := by decide +kernel
theorem dX6_allAreHomeCheaper_14 : decode cX6_allAreHomeCheaper 14 = .ok (.if_icmp .lt 26, 3) := by decide +kernel
theorem dX6_allAreHomeCheaper_17 : decode cX6_allAreHomeCheaper 17 = .ok (.aload_n 0, 1) := by decide +kernel
theorem dX6_allAreHomeCheaper_18 : decode cX6_allAreHomeCheaper 18 = .ok (.getfield 62, 3) := by decide +kernel
theorem dX6_allAreHomeCheaper_21 : decode cX6_allAreHomeCheaper 21 = .ok (.bipush (-4), 2) := by decide +kernel
theorem dX6_allAreHomeCheaper_23 : decode cX6_allAreHomeCheaper 23 = .ok (.if_icmp .eq 19, 3) := by decide +kernel
theorem dX6_allAreHomeCheaper_26 : decode cX6_allAreHomeCheaper 26 = .ok (.aload_n 0, 1) := by decide +kernel
theorem dX6_allAreHomeCheaper_27 : decode cX6_allAreHomeCheaper 27 = .ok (.getfield 15, 3) := by decide +kernel
theorem dX6_allAreHomeCheaper_30 : decode cX6_allAreHomeCheaper 30 = .ok (.getfield 83, 3) := by decide +kernel
theorem dX6_allAreHomeCheaper_33 : decode cX6_allAreHomeCheaper 33 = .ok (.aload_n 0, 1) := by decide +kernel
theorem dX6_allAreHomeCheaper_34 : decode cX6_allAreHomeCheaper 34 = .ok (.getfield 62, 3) := by decide +kernel
theorem dX6_allAreHomeCheaper_37 : decode cX6_allAreHomeCheaper 37 = .ok (.if_icmp .lt 5, 3) := by decide +kernel
theorem dX6_allAreHomeCheaper_40 : decode cX6_allAreHomeCheaper 40 = .ok (.iconst 0, 1) := by decide +kernel
theorem dX6_allAreHomeCheaper_41 : decode cX6_allAreHomeCheaper 41 = .ok (.ireturn, 1) := by decide +kernel
theorem dX6_allAreHomeCheaper_42 : decode cX6_allAreHomeCheaper 42 = .ok (.aload_n 0, 1) := by decide +kernel
theorem dX6_allAreHomeCheaper_43 : decode cX6_allAreHomeCheaper 43 = .ok (.aload_n 0, 1) := by decide +kernel
theorem dX6_allAreHomeCheaper_44 : decode cX6_allAreHomeCheaper 44 = .ok (.getfield 15, 3) := by decide +kernel
theorem dX6_allAreHomeCheaper_47 : decode cX6_allAreHomeCheaper 47 = .ok (.getfield 83, 3) := by decide +kernel
theorem dX6_allAreHomeCheaper_50 : decode cX6_allAreHomeCheaper 50 = .ok (.putfield 62, 3) := by decide +kernel
theorem dX6_allAreHomeCheaper_53 : decode cX6_allAreHomeCheaper 53 = .ok (.iconst 1, 1) := by decide +kernel
theorem dX6_allAreHomeCheaper_54 : decode cX6_allAreHomeCheaper 54 = .ok (.ireturn, 1) := by decide +kernel
theorem dX6_cheapestConvert_0 : decode cX6_cheapestConvert 0 = .ok (.aload_n 0, 1) := by decide +kernel
theorem dX6_cheapestConvert_1 : decode cX6_cheapestConvert 1 = .ok (.getfield 9, 3) := by decide +kernel
theorem dX6_cheapestConvert_4 : decode cX6_cheapestConvert 4 = .ok (.aload_n 1, 1) := by decide +kernel
theorem dX6_cheapestConvert_5 : decode cX6_cheapestConvert 5 = .ok (.invokevirtual 19, 3) := by decide +kernel
theorem dX6_cheapestConvert_8 : decode cX6_cheapestConvert 8 = .ok (.aload_n 0, 1) := by decide +kernel
theorem dX6_cheapestConvert_9 : decode cX6_cheapestConvert 9 = .ok (.getfield 15, 3) := by decide +kernel
theorem dX6_cheapestConvert_12 : decode cX6_cheapestConvert 12 = .ok (.aload_n 0, 1) := by decide +kernel
theorem dX6_cheapestConvert_13 : decode cX6_cheapestConvert 13 = .ok (.getfield 9, 3) := by decide +kernel
theorem dX6_cheapestConvert_16 : decode cX6_cheapestConvert 16 = .ok (.invokevirtual 36, 3) := by decide +kernel
theorem dX6_cheapestConvert_19 : decode cX6_cheapestConvert 19 = .ok (.aload_n 0, 1) := by decide +kernel
theorem dX6_cheapestConvert_20 : decode cX6_cheapestConvert 20 = .ok (.getfield 15, 3) := by decide +kernel
theorem dX6_cheapestConvert_23 : decode cX6_cheapestConvert 23 = .ok (.getfield 83, 3) := by decide +kernel
theorem dX6_cheapestConvert_26 : decode cX6_cheapestConvert 26 = .ok (.istore_n 2, 1) := by decide +kernel
theorem dX6_cheapestConvert_27 : decode cX6_cheapestConvert 27 = .ok (.bipush (-4), 2) := by decide +kernel
theorem dX6_cheapestConvert_29 : decode cX6_cheapestConvert 29 = .ok (.istore_n 3, 1) := by decide +kernel
theorem dX6_cheapestConvert_30 : decode cX6_cheapestConvert 30 = .ok (.iconst 0, 1) := by decide +kernel
theorem dX6_cheapestConvert_31 : decode cX6_cheapestConvert 31 = .ok (.istore 4, 2) := by decide +kernel
theorem dX6_cheapestConvert_33 : decode cX6_cheapestConvert 33 = .ok (.iload 4, 2) := by decide +kernel
theorem dX6_cheapestConvert_35 : decode cX6_cheapestConvert 35 = .ok (.aload_n 1, 1) := by decide +kernel
theorem dX6_cheapestConvert_36 : decode cX6_cheapestConvert 36 = .ok (.getfield 69, 3) := by decide +kernel
theorem dX6_cheapestConvert_39 : decode cX6_cheapestConvert 39 = .ok (.if_icmp .ge 92, 3) := by decide +kernel
theorem dX6_cheapestConvert_42 : decode cX6_cheapestConvert 42 = .ok (.iconst 0, 1) := by decide +kernel
theorem dX6_cheapestConvert_43 : decode cX6_cheapestConvert 43 = .ok (.istore 5, 2) := by decide +kernel
theorem dX6_cheapestConvert_45 : decode cX6_cheapestConvert 45 = .ok (.iload 5, 2) := by decide +kernel
theorem dX6_cheapestConvert_47 : decode cX6_cheapestConvert 47 = .ok (.iconst 4, 1) := by decide +kernel
theorem dX6_cheapestConvert_48 : decode cX6_cheapestConvert 48 = .ok (.if_icmp .ge 60, 3) := by decide +kernel
theorem dX6_cheapestConvert_51 : decode cX6_cheapestConvert 51 = .ok (.aload_n 0, 1) := by decide +kernel
theorem dX6_cheapestConvert_52 : decode cX6_cheapestConvert 52 = .ok (.getfield 9, 3) := by decide +kernel
theorem dX6_cheapestConvert_55 : decode cX6_cheapestConvert 55 = .ok (.iload 4, 2) := by decide +kernel
theorem dX6_cheapestConvert_57 : decode cX6_cheapestConvert 57 = .ok (.iconst 0, 1) := by decide +kernel
theorem dX6_cheapestConvert_58 : decode cX6_cheapestConvert 58 = .ok (.iload 5, 2) := by decide +kernel
theorem dX6_cheapestConvert_60 : decode cX6_cheapestConvert 60 = .ok (.invokevirtual 76, 3) := by decide +kernel
theorem dX6_cheapestConvert_63 : decode cX6_cheapestConvert 63 = .ok (.aload_n 0, 1) := by decide +kernel
theorem dX6_cheapestConvert_64 : decode cX6_cheapestConvert 64 = .ok (.getfield 15, 3) := by decide +kernel
theorem dX6_cheapestConvert_67 : decode cX6_cheapestConvert 67 = .ok (.aload_n 0, 1) := by decide +kernel
theorem dX6_cheapestConvert_68 : decode cX6_cheapestConvert 68 = .ok (.getfield 9, 3) := by decide +kernel
theorem dX6_cheapestConvert_71 : decode cX6_cheapestConvert 71 = .ok (.invokevirtual 36, 3) := by decide +kernel
theorem dX6_cheapestConvert_74 : decode cX6_cheapestConvert 74 = .ok (.aload_n 0, 1) := by decide +kernel
theorem dX6_cheapestConvert_75 : decode cX6_cheapestConvert 75 = .ok (.getfield 15, 3) := by decide +kernel
theorem dX6_cheapestConvert_78 : decode cX6_cheapestConvert 78 = .ok (.getfield 83, 3) := by decide +kernel
theorem dX6_cheapestConvert_81 : decode cX6_cheapestConvert 81 = .ok (.iload_n 2, 1) := by decide +kernel
theorem dX6_cheapestConvert_82 : decode cX6_cheapestConvert 82 = .ok (.if_icmp .ge 20, 3) := by decide +kernel
theorem dX6_cheapestConvert_85 : decode cX6_cheapestConvert 85 = .ok (.aload_n 0, 1) := by decide +kernel
theorem dX6_cheapestConvert_86 : decode cX6_cheapestConvert 86 = .ok (.getfield 15, 3) := by decide +kernel
theorem dX6_cheapestConvert_89 : decode cX6_cheapestConvert 89 = .ok (.getfield 83, 3) := by decide +kernel
theorem dX6_cheapestConvert_92 : decode cX6_cheapestConvert 92 = .ok (.istore_n 2, 1) := by decide +kernel
theorem dX6_cheapestConvert_93 : decode cX6_cheapestConvert 93 = .ok (.bipush 10, 2) := by decide +kernel
theorem dX6_cheapestConvert_95 : decode cX6_cheapestConvert 95 = .ok (.iload 4, 2) := by decide +kernel
theorem dX6_cheapestConvert_97 : decode cX6_cheapestConvert 97 = .ok (.imul, 1) := by decide +kernel
theorem dX6_cheapestConvert_98 : decode cX6_cheapestConvert 98 = .ok (.iload 5, 2) := by decide +kernel
theorem dX6_cheapestConvert_100 : decode cX6_cheapestConvert 100 = .ok (.iadd, 1) := by decide +kernel
theorem dX6_cheapestConvert_101 : decode cX6_cheapestConvert 101 = .ok (.istore_n 3, 1) := by decide +kernel
theorem dX6_cheapestConvert_102 : decode cX6_cheapestConvert 102 = .ok (.iinc 5 1, 3) := by decide +kernel
theorem dX6_cheapestConvert_105 : decode cX6_cheapestConvert 105 = .ok (.goto (-60), 3) := by decide +kernel
theorem dX6_cheapestConvert_108 : decode cX6_cheapestConvert 108 = .ok (.aload_n 0, 1) := by decide +kernel
theorem dX6_cheapestConvert_109 : decode cX6_cheapestConvert 109 = .ok (.getfield 9, 3) := by decide +kernel
theorem dX6_cheapestConvert_112 : decode cX6_cheapestConvert 112 = .ok (.iload 4, 2) := by decide +kernel
theorem dX6_cheapestConvert_114 : decode cX6_cheapestConvert 114 = .ok (.iconst 0, 1) := by decide +kernel
theorem dX6_cheapestConvert_115 : decode cX6_cheapestConvert 115 = .ok (.aload_n 1, 1) := by decide +kernel
theorem dX6_cheapestConvert_116 : decode cX6_cheapestConvert 116 = .ok (.iload 4, 2) := by decide +kernel
theorem dX6_cheapestConvert_118 : decode cX6_cheapestConvert 118 = .ok (.iconst 0, 1) := by decide +kernel
theorem dX6_cheapestConvert_119 : decode cX6_cheapestConvert 119 = .ok (.invokevirtual 86, 3) := by decide +kernel
theorem dX6_cheapestConvert_122 : decode cX6_cheapestConvert 122 = .ok (.invokevirtual 76, 3) := by decide +kernel
theorem dX6_cheapestConvert_125 : decode cX6_cheapestConvert 125 = .ok (.iinc 4 1, 3) := by decide +kernel
theorem dX6_cheapestConvert_128 : decode cX6_cheapestConvert 128 = .ok (.goto (-95), 3) := by decide +kernel
theorem dX6_cheapestConvert_131 : decode cX6_cheapestConvert 131 = .ok (.aload_n 0, 1) := by decide +kernel
theorem dX6_cheapestConvert_132 : decode cX6_cheapestConvert 132 = .ok (.iload_n 3, 1) := by decide +kernel
theorem dX6_cheapestConvert_133 : decode cX6_cheapestConvert 133 = .ok (.bipush (-4), 2) := by decide +kernel
theorem dX6_cheapestConvert_135 : decode cX6_cheapestConvert 135 = .ok (.if_icmp .ne 8, 3) := by decide +kernel
theorem dX6_cheapestConvert_138 : decode cX6_cheapestConvert 138 = .ok (.bipush (-4), 2) := by decide +kernel
theorem dX6_cheapestConvert_140 : decode cX6_cheapestConvert 140 = .ok (.goto 4, 3) := by decide +kernel
theorem dX6_cheapestConvert_143 : decode cX6_cheapestConvert 143 = .ok (.iload_n 2, 1) := by decide +kernel
theorem dX6_cheapestConvert_144 : decode cX6_cheapestConvert 144 = .ok (.putfield 62, 3) := by decide +kernel
theorem dX6_cheapestConvert_147 : decode cX6_cheapestConvert 147 = .ok (.iload_n 3, 1) := by decide +kernel
theorem dX6_cheapestConvert_148 : decode cX6_cheapestConvert 148 = .ok (.ireturn, 1) := by decide +kernel
theorem dX7_init_0 : decode cX7_init 0 = .ok (.aload_n 0, 1) := by decide +kernel
theorem dX7_init_1 : decode cX7_init 1 = .ok (.invokespecial 1, 3) := by decide +kernel
theorem dX7_init_4 : decode cX7_init 4 = .ok (.aload_n 0, 1) := by decide +kernel
theorem dX7_init_5 : decode cX7_init 5 = .ok (.new 7, 3) := by decide +kernel
theorem dX7_init_8 : decode cX7_init 8 = .ok (.dup, 1) := by decide +kernel
theorem dX7_init_9 : decode cX7_init 9 = .ok (.invokespecial 9, 3) := by decide +kernel
theorem dX7_init_12 : decode cX7_init 12 = .ok (.putfield 10, 3) := by decide +kernel
theorem dX7_init_15 : decode cX7_init 15 = .ok (.aload_n 0, 1) := by decide +kernel
theorem dX7_init_16 : decode cX7_init 16 = .ok (.new 7, 3) := by decide +kernel
theorem dX7_init_19 : decode cX7_init 19 = .ok (.dup, 1) := by decide +kernel
theorem dX7_init_20 : decode cX7_init 20 = .ok (.invokespecial 9, 3) := by decide +kernel
theorem dX7_init_23 : decode cX7_init 23 = .ok (.putfield 16, 3) := by decide +kernel
theorem dX7_init_26 : decode cX7_init 26 = .ok (.aload_n 0, 1) := by decide +kernel
theorem dX7_init_27 : decode cX7_init 27 = .ok (.new 19, 3) := by decide +kernel
theorem dX7_init_30 : decode cX7_init 30 = .ok (.dup, 1) := by decide +kernel
theorem dX7_init_31 : decode cX7_init 31 = .ok (.invokespecial 21, 3) := by decide +kernel
theorem dX7_init_34 : decode cX7_init 34 = .ok (.putfield 22, 3) := by decide +kernel
theorem dX7_init_37 : decode cX7_init 37 = .ok (.aload_n 0, 1) := by decide +kernel
theorem dX7_init_38 : decode cX7_init 38 = .ok (.new 26, 3) := by decide +kernel
theorem dX7_init_41 : decode cX7_init 41 = .ok (.dup, 1) := by decide +kernel
theorem dX7_init_42 : decode cX7_init 42 = .ok (.invokespecial 28, 3) := by decide +kernel
theorem dX7_init_45 : decode cX7_init 45 = .ok (.putfield 29, 3) := by decide +kernel
theorem dX7_init_48 : decode cX7_init 48 = .ok (.aload_n 0, 1) := by decide +kernel
theorem dX7_init_49 : decode cX7_init 49 = .ok (.new 33, 3) := by decide +kernel
theorem dX7_init_52 : decode cX7_init 52 = .ok (.dup, 1) := by decide +kernel
theorem dX7_init_53 : decode cX7_init 53 = .ok (.aload_n 0, 1) := by decide +kernel
theorem dX7_init_54 : decode cX7_init 54 = .ok (.getfield 16, 3) := by decide +kernel
theorem dX7_init_57 : decode cX7_init 57 = .ok (.aload_n 0, 1) := by decide +kernel
theorem dX7_init_58 : decode cX7_init 58 = .ok (.getfield 29, 3) := by decide +kernel
theorem dX7_init_61 : decode cX7_init 61 = .ok (.invokespecial 35, 3) := by decide +kernel
theorem dX7_init_64 : decode cX7_init 64 = .ok (.putfield 38, 3) := by decide +kernel
theorem dX7_init_67 : decode cX7_init 67 = .ok (.aload_n 0, 1) := by decide +kernel
theorem dX7_init_68 : decode cX7_init 68 = .ok (.new 42, 3) := by decide +kernel
theorem dX7_init_71 : decode cX7_init 71 = .ok (.dup, 1) := by decide +kernel
theorem dX7_init_72 : decode cX7_init 72 = .ok (.aload_n 0, 1) := by decide +kernel
theorem dX7_init_73 : decode cX7_init 73 = .ok (.getfield 16, 3) := by decide +kernel
theorem dX7_init_76 : decode cX7_init 76 = .ok (.aload_n 0, 1) := by decide +kernel
theorem dX7_init_77 : decode cX7_init 77 = .ok (.getfield 29, 3) := by decide +kernel
theorem dX7_init_80 : decode cX7_init 80 = .ok (.invokespecial 44, 3) := by decide +kernel
theorem dX7_init_83 : decode cX7_init 83 = .ok (.putfield 45, 3) := by decide +kernel
theorem dX7_init_86 : decode cX7_init 86 = .ok (.aload_n 0, 1) := by decide +kernel
theorem dX7_init_87 : decode cX7_init 87 = .ok (.new 49, 3) := by decide +kernel
theorem dX7_init_90 : decode cX7_init 90 = .ok (.dup, 1) := by decide +kernel
theorem dX7_init_91 : decode cX7_init 91 = .ok (.aload_n 0, 1) := by decide +kernel
theorem dX7_init_92 : decode cX7_init 92 = .ok (.getfield 16, 3) := by decide +kernel
theorem dX7_init_95 : decode cX7_init 95 = .ok (.aload_n 0, 1) := by decide +kernel
theorem dX7_init_96 : decode cX7_init 96 = .ok (.getfield 29, 3) := by decide +kernel
theorem dX7_init_99 : decode cX7_init 99 = .ok (.invokespecial 51, 3) := by decide +kernel
theorem dX7_init_102 : decode cX7_init 102 = .ok (.putfield 52, 3) := by decide +kernel
theorem dX7_init_105 : decode cX7_init 105 = .ok (.aload_n 0, 1) := by decide +kernel
theorem dX7_init_106 : decode cX7_init 106 = .ok (.iconst 2, 1) := by decide +kernel
theorem dX7_init_107 : decode cX7_init 107 = .ok (.anewarray 7, 3) := by decide +kernel
theorem dX7_init_110 : decode cX7_init 110 = .ok (.putfield 56, 3) := by decide +kernel
theorem dX7_init_113 : decode cX7_init 113 = .ok (.aload_n 0, 1) := by decide +kernel
theorem dX7_init_114 : decode cX7_init 114 = .ok (.iconst 2, 1) := by decide +kernel
theorem dX7_init_115 : decode cX7_init 115 = .ok (.newarray .boolean, 2) := by decide +kernel
theorem dX7_init_117 : decode cX7_init 117 = .ok (.putfield 60, 3) := by decide +kernel
theorem dX7_init_120 : decode cX7_init 120 = .ok (.aload_n 0, 1) := by decide +kernel
theorem dX7_init_121 : decode cX7_init 121 = .ok (.iconst 4, 1) := by decide +kernel
theorem dX7_init_122 : decode cX7_init 122 = .ok (.anewarray 64, 3) := by decide +kernel
theorem dX7_init_125 : decode cX7_init 125 = .ok (.putfield 66, 3) := by decide +kernel
theorem dX7_init_128 : decode cX7_init 128 = .ok (.iconst 0, 1) := by decide +kernel
theorem dX7_init_129 : decode cX7_init 129 = .ok (.istore_n 1, 1) := by decide +kernel
theorem dX7_init_130 : decode cX7_init 130 = .ok (.iload_n 1, 1) := by decide +kernel
theorem dX7_init_131 : decode cX7_init 131 = .ok (.iconst 2, 1) := by decide +kernel
theorem dX7_init_132 : decode cX7_init 132 = .ok (.if_icmp .ge 22, 3) := by decide +kernel
theorem dX7_init_135 : decode cX7_init 135 = .ok (.aload_n 0, 1) := by decide +kernel
theorem dX7_init_136 : decode cX7_init 136 = .ok (.getfield 56, 3) := by decide +kernel
theorem dX7_init_139 : decode cX7_init 139 = .ok (.iload_n 1, 1) := by decide +kernel
theorem dX7_init_140 : decode cX7_init 140 = .ok (.new 7, 3) := by decide +kernel
theorem dX7_init_143 : decode cX7_init 143 = .ok (.dup, 1) := by decide +kernel
theorem dX7_init_144 : decode cX7_init 144 = .ok (.invokespecial 9, 3) := by decide +kernel
theorem dX7_init_147 : decode cX7_init 147 = .ok (.aastore, 1) := by decide +kernel
theorem dX7_init_148 : decode cX7_init 148 = .ok (.iinc 1 1, 3) := by decide +kernel
theorem dX7_init_151 : decode cX7_init 151 = .ok (.goto (-21), 3) := by decide +kernel
theorem dX7_init_154 : decode cX7_init 154 = .ok (.iconst 0, 1) := by decide +kernel
theorem dX7_init_155 : decode cX7_init 155 = .ok (.istore_n 1, 1) := by decide +kernel
theorem dX7_init_156 : decode cX7_init 156 = .ok (.iload_n 1, 1) := by decide +kernel
theorem dX7_init_157 : decode cX7_init 157 = .ok (.iconst 4, 1) := by decide +kernel
theorem dX7_init_158 : decode cX7_init 158 = .ok (.if_icmp .ge 22, 3) := by decide +kernel
theorem dX7_init_161 : decode cX7_init 161 = .ok (.aload_n 0, 1) := by decide +kernel
theorem dX7_init_162 : decode cX7_init 162 = .ok (.getfield 66, 3) := by decide +kernel
theorem dX7_init_165 : decode cX7_init 165 = .ok (.iload_n 1, 1) := by decide +kernel
theorem dX7_init_166 : decode cX7_init 166 = .ok (.new 64, 3) := by decide +kernel
theorem dX7_init_169 : decode cX7_init 169 = .ok (.dup, 1) := by decide +kernel
theorem dX7_init_170 : decode cX7_init 170 = .ok (.invokespecial 70, 3) := by decide +kernel
theorem dX7_init_173 : decode cX7_init 173 = .ok (.aastore, 1) := by decide +kernel
theorem dX7_init_174 : decode cX7_init 174 = .ok (.iinc 1 1, 3) := by decide +kernel
theorem dX7_init_177 : decode cX7_init 177 = .ok (.goto (-21), 3) := by decide +kernel
theorem dX7_init_180 : decode cX7_init 180 = .ok (.return_, 1) := by decide +kernel
theorem dX7_feed_0 : decode cX7_feed 0 = .ok (.iload_n 1, 1) := by decide +kernel
theorem dX7_feed_1 : decode cX7_feed 1 = .ok (.ifCond .lt 9, 3) := by decide +kernel
theorem dX7_feed_4 : decode cX7_feed 4 = .ok (.iload_n 1, 1) := by decide +kernel
theorem dX7_feed_5 : decode cX7_feed 5 = .ok (.bipush 127, 2) := by decide +kernel
theorem dX7_feed_7 : decode cX7_feed 7 = .ok (.if_icmp .le 5, 3) := by decide +kernel
theorem dX7_feed_10 : decode cX7_feed 10 = .ok (.iconst (-1), 1) := by decide +kernel
theorem dX7_feed_11 : decode cX7_feed 11 = .ok (.ireturn, 1) := by decide +kernel
theorem dX7_feed_12 : decode cX7_feed 12 = .ok (.aload_n 0, 1) := by decide +kernel
theorem dX7_feed_13 : decode cX7_feed 13 = .ok (.getfield 22, 3) := by decide +kernel
theorem dX7_feed_16 : decode cX7_feed 16 = .ok (.iload_n 1, 1) := by decide +kernel
theorem dX7_feed_17 : decode cX7_feed 17 = .ok (.invokevirtual 71, 3) := by decide +kernel
theorem dX7_feed_20 : decode cX7_feed 20 = .ok (.ifCond .eq 13, 3) := by decide +kernel
theorem dX7_feed_23 : decode cX7_feed 23 = .ok (.aload_n 0, 1) := by decide +kernel
theorem dX7_feed_24 : decode cX7_feed 24 = .ok (.getfield 22, 3) := by decide +kernel
theorem dX7_feed_27 : decode cX7_feed 27 = .ok (.getfield 75, 3) := by decide +kernel
theorem dX7_feed_30 : decode cX7_feed 30 = .ok (.goto 5, 3) := by decide +kernel
theorem dX7_feed_33 : decode cX7_feed 33 = .ok (.bipush (-3), 2) := by decide +kernel
theorem dX7_feed_35 : decode cX7_feed 35 = .ok (.ireturn, 1) := by decide +kernel
theorem dX7_end_0 : decode cX7_end 0 = .ok (.aload_n 0, 1) := by decide +kernel
theorem dX7_end_1 : decode cX7_end 1 = .ok (.getfield 22, 3) := by decide +kernel
theorem dX7_end_4 : decode cX7_end 4 = .ok (.getfield 75, 3) := by decide +kernel
theorem dX7_end_7 : decode cX7_end 7 = .ok (.istore_n 2, 1) := by decide +kernel
theorem dX7_end_8 : decode cX7_end 8 = .ok (.iload_n 1, 1) := by decide +kernel
theorem dX7_end_9 : decode cX7_end 9 = .ok (.ifCond .lt 8, 3) := by decide +kernel
theorem dX7_end_12 : decode cX7_end 12 = .ok (.iload_n 1, 1) := by decide +kernel
theorem dX7_end_13 : decode cX7_end 13 = .ok (.iload_n 2, 1) := by decide +kernel
theorem dX7_end_14 : decode cX7_end 14 = .ok (.if_icmp .le 5, 3) := by decide +kernel
theorem dX7_end_17 : decode cX7_end 17 = .ok (.iconst (-1), 1) := by decide +kernel
theorem dX7_end_18 : decode cX7_end 18 = .ok (.ireturn, 1) := by decide +kernel
theorem dX7_end_19 : decode cX7_end 19 = .ok (.aload_n 0, 1) := by decide +kernel
theorem dX7_end_20 : decode cX7_end 20 = .ok (.getfield 22, 3) := by decide +kernel
theorem dX7_end_23 : decode cX7_end 23 = .ok (.iload_n 1, 1) := by decide +kernel
theorem dX7_end_24 : decode cX7_end 24 = .ok (.putfield 75, 3) := by decide +kernel
theorem dX7_end_27 : decode cX7_end 27 = .ok (.iload_n 2, 1) := by decide +kernel
theorem dX7_end_28 : decode cX7_end 28 = .ok (.ireturn, 1) := by decide +kernel
theorem dX7_text_0 : decode cX7_text 0 = .ok (.aload_n 0, 1) := by decide +kernel
theorem dX7_text_1 : decode cX7_text 1 = .ok (.getfield 22, 3) := by decide +kernel
theorem dX7_text_4 : decode cX7_text 4 = .ok (.aload_n 0, 1) := by decide +kernel
theorem dX7_text_5 : decode cX7_text 5 = .ok (.getfield 16, 3) := by decide +kernel
theorem dX7_text_8 : decode cX7_text 8 = .ok (.invokevirtual 79, 3) := by decide +kernel
theorem dX7_text_11 : decode cX7_text 11 = .ok (.istore_n 1, 1) := by decide +kernel
theorem dX7_text_12 : decode cX7_text 12 = .ok (.aload_n 0, 1) := by decide +kernel
theorem dX7_text_13 : decode cX7_text 13 = .ok (.getfield 22, 3) := by decide +kernel
theorem dX7_text_16 : decode cX7_text 16 = .ok (.iconst 0, 1) := by decide +kernel
theorem dX7_text_17 : decode cX7_text 17 = .ok (.putfield 75, 3) := by decide +kernel
theorem dX7_text_20 : decode cX7_text 20 = .ok (.aload_n 0, 1) := by decide +kernel
theorem dX7_text_21 : decode cX7_text 21 = .ok (.aload_n 0, 1) := by decide +kernel
theorem dX7_text_22 : decode cX7_text 22 = .ok (.getfield 22, 3) := by decide +kernel
theorem dX7_text_25 : decode cX7_text 25 = .ok (.getfield 83, 3) := by decide +kernel
theorem dX7_text_28 : decode cX7_text 28 = .ok (.putfield 86, 3) := by decide +kernel
theorem dX7_text_31 : decode cX7_text 31 = .ok (.aload_n 0, 1) := by decide +kernel
theorem dX7_text_32 : decode cX7_text 32 = .ok (.getfield 86, 3) := by decide +kernel
theorem dX7_text_35 : decode cX7_text 35 = .ok (.ifCond .eq 14, 3) := by decide +kernel
theorem dX7_text_38 : decode cX7_text 38 = .ok (.bipush (-10), 2) := by decide +kernel
theorem dX7_text_40 : decode cX7_text 40 = .ok (.aload_n 0, 1) := by decide +kernel
theorem dX7_text_41 : decode cX7_text 41 = .ok (.getfield 22, 3) := by decide +kernel
theorem dX7_text_44 : decode cX7_text 44 = .ok (.getfield 89, 3) := by decide +kernel
theorem dX7_text_47 : decode cX7_text 47 = .ok (.isub, 1) := by decide +kernel
theorem dX7_text_48 : decode cX7_text 48 = .ok (.ireturn, 1) := by decide +kernel
theorem dX7_text_49 : decode cX7_text 49 = .ok (.aload_n 0, 1) := by decide +kernel
theorem dX7_text_50 : decode cX7_text 50 = .ok (.getfield 10, 3) := by decide +kernel
theorem dX7_text_53 : decode cX7_text 53 = .ok (.aload_n 0, 1) := by decide +kernel
theorem dX7_text_54 : decode cX7_text 54 = .ok (.getfield 16, 3) := by decide +kernel
theorem dX7_text_57 : decode cX7_text 57 = .ok (.invokevirtual 92, 3) := by decide +kernel
theorem dX7_text_60 : decode cX7_text 60 = .ok (.aload_n 0, 1) := by decide +kernel
theorem dX7_text_61 : decode cX7_text 61 = .ok (.getfield 52, 3) := by decide +kernel
theorem dX7_text_64 : decode cX7_text 64 = .ok (.iconst 0, 1) := by decide +kernel
theorem dX7_text_65 : decode cX7_text 65 = .ok (.putfield 96, 3) := by decide +kernel
theorem dX7_text_68 : decode cX7_text 68 = .ok (.aload_n 0, 1) := by decide +kernel
theorem dX7_text_69 : decode cX7_text 69 = .ok (.getfield 60, 3) := by decide +kernel
theorem dX7_text_72 : decode cX7_text 72 = .ok (.iconst 0, 1) := by decide +kernel
theorem dX7_text_73 : decode cX7_text 73 = .ok (.iconst 0, 1) := by decide +kernel
theorem dX7_text_74 : decode cX7_text 74 = .ok (.bastore, 1) := by decide +kernel
theorem dX7_text_75 : decode cX7_text 75 = .ok (.aload_n 0, 1) := by decide +kernel
theorem dX7_text_76 : decode cX7_text 76 = .ok (.getfield 60, 3) := by decide +kernel
theorem dX7_text_79 : decode cX7_text 79 = .ok (.iconst 1, 1) := by decide +kernel
theorem dX7_text_80 : decode cX7_text 80 = .ok (.iconst 0, 1) := by decide +kernel
theorem dX7_text_81 : decode cX7_text 81 = .ok (.bastore, 1) := by decide +kernel
theorem dX7_text_82 : decode cX7_text 82 = .ok (.iload_n 1, 1) := by decide +kernel
theorem dX7_text_83 : decode cX7_text 83 = .ok (.ireturn, 1) := by decide +kernel
theorem dX7_fault_0 : decode cX7_fault 0 = .ok (.aload_n 0, 1) := by decide +kernel
theorem dX7_fault_1 : decode cX7_fault 1 = .ok (.getfield 86, 3) := by decide +kernel
theorem dX7_fault_4 : decode cX7_fault 4 = .ok (.ireturn, 1) := by decide +kernel
theorem dX7_rule_0 : decode cX7_rule 0 = .ok (.iload_n 1, 1) := by decide +kernel
theorem dX7_rule_1 : decode cX7_rule 1 = .ok (.tableswitch 75 0 4 #[35, 43, 51, 59, 67], 35) := by decide +kernel
theorem dX7_rule_36 : decode cX7_rule 36 = .ok (.aload_n 0, 1) := by decide +kernel
theorem dX7_rule_37 : decode cX7_rule 37 = .ok (.getfield 10, 3) := by decide +kernel
theorem dX7_rule_40 : decode cX7_rule 40 = .ok (.getfield 97, 3) := by decide +kernel
theorem dX7_rule_43 : decode cX7_rule 43 = .ok (.ireturn, 1) := by decide +kernel
theorem dX7_rule_44 : decode cX7_rule 44 = .ok (.aload_n 0, 1) := by decide +kernel
theorem dX7_rule_45 : decode cX7_rule 45 = .ok (.getfield 10, 3) := by decide +kernel
theorem dX7_rule_48 : decode cX7_rule 48 = .ok (.getfield 100, 3) := by decide +kernel
theorem dX7_rule_51 : decode cX7_rule 51 = .ok (.ireturn, 1) := by decide +kernel
theorem dX7_rule_52 : decode cX7_rule 52 = .ok (.aload_n 0, 1) := by decide +kernel
theorem dX7_rule_53 : decode cX7_rule 53 = .ok (.getfield 10, 3) := by decide +kernel
theorem dX7_rule_56 : decode cX7_rule 56 = .ok (.getfield 103, 3) := by decide +kernel
theorem dX7_rule_59 : decode cX7_rule 59 = .ok (.ireturn, 1) := by decide +kernel
theorem dX7_rule_60 : decode cX7_rule 60 = .ok (.aload_n 0, 1) := by decide +kernel
theorem dX7_rule_61 : decode cX7_rule 61 = .ok (.getfield 10, 3) := by decide +kernel
theorem dX7_rule_64 : decode cX7_rule 64 = .ok (.getfield 106, 3) := by decide +kernel
theorem dX7_rule_67 : decode cX7_rule 67 = .ok (.ireturn, 1) := by decide +kernel
theorem dX7_rule_68 : decode cX7_rule 68 = .ok (.aload_n 0, 1) := by decide +kernel
theorem dX7_rule_69 : decode cX7_rule 69 = .ok (.getfield 10, 3) := by decide +kernel
theorem dX7_rule_72 : decode cX7_rule 72 = .ok (.invokevirtual 109, 3) := by decide +kernel
theorem dX7_rule_75 : decode cX7_rule 75 = .ok (.ireturn, 1) := by decide +kernel
theorem dX7_rule_76 : decode cX7_rule 76 = .ok (.iconst (-1), 1) := by decide +kernel
theorem dX7_rule_77 : decode cX7_rule 77 = .ok (.ireturn, 1) := by decide +kernel
theorem dX7_block_0 : decode cX7_block 0 = .ok (.aload_n 0, 1) := by decide +kernel
theorem dX7_block_1 : decode cX7_block 1 = .ok (.getfield 10, 3) := by decide +kernel
theorem dX7_block_4 : decode cX7_block 4 = .ok (.iload_n 1, 1) := by decide +kernel
theorem dX7_block_5 : decode cX7_block 5 = .ok (.invokevirtual 113, 3) := by decide +kernel
theorem dX7_block_8 : decode cX7_block 8 = .ok (.ifCond .ne 5, 3) := by decide +kernel
theorem dX7_block_11 : decode cX7_block 11 = .ok (.iconst (-1), 1) := by decide +kernel
theorem dX7_block_12 : decode cX7_block 12 = .ok (.ireturn, 1) := by decide +kernel
theorem dX7_block_13 : decode cX7_block 13 = .ok (.iload_n 2, 1) := by decide +kernel
theorem dX7_block_14 : decode cX7_block 14 = .ok (.tableswitch 62 0 2 #[26, 36, 53], 26) := by decide +kernel
theorem dX7_block_40 : decode cX7_block 40 = .ok (.aload_n 0, 1) := by decide +kernel
theorem dX7_block_41 : decode cX7_block 41 = .ok (.getfield 10, 3) := by decide +kernel
theorem dX7_block_44 : decode cX7_block 44 = .ok (.getfield 116, 3) := by decide +kernel
theorem dX7_block_47 : decode cX7_block 47 = .ok (.iload_n 1, 1) := by decide +kernel
theorem dX7_block_48 : decode cX7_block 48 = .ok (.iaload, 1) := by decide +kernel
theorem dX7_block_49 : decode cX7_block 49 = .ok (.ireturn, 1) := by decide +kernel
theorem dX7_block_50 : decode cX7_block 50 = .ok (.aload_n 0, 1) := by decide +kernel
theorem dX7_block_51 : decode cX7_block 51 = .ok (.getfield 10, 3) := by decide +kernel
theorem dX7_block_54 : decode cX7_block 54 = .ok (.iload_n 1, 1) := by decide +kernel
theorem dX7_block_55 : decode cX7_block 55 = .ok (.invokevirtual 120, 3) := by decide +kernel
theorem dX7_block_58 : decode cX7_block 58 = .ok (.ifCond .eq 7, 3) := by decide +kernel
theorem dX7_block_61 : decode cX7_block 61 = .ok (.iconst 1, 1) := by decide +kernel
theorem dX7_block_62 : decode cX7_block 62 = .ok (.goto 4, 3) := by decide +kernel
theorem dX7_block_65 : decode cX7_block 65 = .ok (.iconst 0, 1) := by decide +kernel
theorem dX7_block_66 : decode cX7_block 66 = .ok (.ireturn, 1) := by decide +kernel
theorem dX7_block_67 : decode cX7_block 67 = .ok (.aload_n 0, 1) := by decide +kernel
theorem dX7_block_68 : decode cX7_block 68 = .ok (.getfield 10, 3) := by decide +kernel
theorem dX7_block_71 : decode cX7_block 71 = .ok (.iload_n 1, 1) := by decide +kernel
theorem dX7_block_72 : decode cX7_block 72 = .ok (.invokevirtual 123, 3) := by decide +kernel
theorem dX7_block_75 : decode cX7_block 75 = .ok (.ireturn, 1) := by decide +kernel
theorem dX7_block_76 : decode cX7_block 76 = .ok (.iconst (-1), 1) := by decide +kernel
theorem dX7_block_77 : decode cX7_block 77 = .ok (.ireturn, 1) := by decide +kernel
theorem dX7_lock_0 : decode cX7_lock 0 = .ok (.iload_n 1, 1) := by decide +kernel
theorem dX7_lock_1 : decode cX7_lock 1 = .ok (.ifCond .lt 23, 3) := by decide +kernel
theorem dX7_lock_4 : decode cX7_lock 4 = .ok (.iload_n 1, 1) := by decide +kernel
theorem dX7_lock_5 : decode cX7_lock 5 = .ok (.aload_n 0, 1) := by decide +kernel
theorem dX7_lock_6 : decode cX7_lock 6 = .ok (.getfield 10, 3) := by decide +kernel
theorem dX7_lock_9 : decode cX7_lock 9 = .ok (.getfield 103, 3) := by decide +kernel
theorem dX7_lock_12 : decode cX7_lock 12 = .ok (.if_icmp .ge 12, 3) := by decide +kernel
theorem dX7_lock_15 : decode cX7_lock 15 = .ok (.iload_n 2, 1) := by decide +kernel
theorem dX7_lock_16 : decode cX7_lock 16 = .ok (.ifCond .lt 8, 3) := by decide +kernel
theorem dX7_lock_19 : decode cX7_lock 19 = .ok (.iload_n 2, 1) := by decide +kernel
theorem dX7_lock_20 : decode cX7_lock 20 = .ok (.iconst 1, 1) := by decide +kernel
theorem dX7_lock_21 : decode cX7_lock 21 = .ok (.if_icmp .le 5, 3) := by decide +kernel
theorem dX7_lock_24 : decode cX7_lock 24 = .ok (.iconst (-1), 1) := by decide +kernel
theorem dX7_lock_25 : decode cX7_lock 25 = .ok (.ireturn, 1) := by decide +kernel
theorem dX7_lock_26 : decode cX7_lock 26 = .ok (.aload_n 0, 1) := by decide +kernel
theorem dX7_lock_27 : decode cX7_lock 27 = .ok (.getfield 10, 3) := by decide +kernel
theorem dX7_lock_30 : decode cX7_lock 30 = .ok (.getfield 127, 3) := by decide +kernel
theorem dX7_lock_33 : decode cX7_lock 33 = .ok (.iconst 2, 1) := by decide +kernel
theorem dX7_lock_34 : decode cX7_lock 34 = .ok (.iload_n 1, 1) := by decide +kernel
theorem dX7_lock_35 : decode cX7_lock 35 = .ok (.imul, 1) := by decide +kernel
theorem dX7_lock_36 : decode cX7_lock 36 = .ok (.iload_n 2, 1) := by decide +kernel
theorem dX7_lock_37 : decode cX7_lock 37 = .ok (.iadd, 1) := by decide +kernel
theorem dX7_lock_38 : decode cX7_lock 38 = .ok (.iaload, 1) := by decide +kernel
theorem dX7_lock_39 : decode cX7_lock 39 = .ok (.ireturn, 1) := by decide +kernel
theorem dX7_train_0 : decode cX7_train 0 = .ok (.aload_n 0, 1) := by decide +kernel
theorem dX7_train_1 : decode cX7_train 1 = .ok (.getfield 10, 3) := by decide +kernel
theorem dX7_train_4 : decode cX7_train 4 = .ok (.iload_n 1, 1) := by decide +kernel
theorem dX7_train_5 : decode cX7_train 5 = .ok (.invokevirtual 130, 3) := by decide +kernel
theorem dX7_train_8 : decode cX7_train 8 = .ok (.ifCond .eq 10, 3) := by decide +kernel
theorem dX7_train_11 : decode cX7_train 11 = .ok (.iload_n 2, 1) := by decide +kernel
theorem dX7_train_12 : decode cX7_train 12 = .ok (.invokestatic 133, 3) := by decide +kernel
theorem dX7_train_15 : decode cX7_train 15 = .ok (.ifCond .ne 5, 3) := by decide +kernel
theorem dX7_train_18 : decode cX7_train 18 = .ok (.iconst (-1), 1) := by decide +kernel
theorem dX7_train_19 : decode cX7_train 19 = .ok (.ireturn, 1) := by decide +kernel
theorem dX7_train_20 : decode cX7_train 20 = .ok (.aload_n 0, 1) := by decide +kernel
theorem dX7_train_21 : decode cX7_train 21 = .ok (.getfield 10, 3) := by decide +kernel
theorem dX7_train_24 : decode cX7_train 24 = .ok (.iload_n 1, 1) := by decide +kernel
theorem dX7_train_25 : decode cX7_train 25 = .ok (.iload_n 2, 1) := by decide +kernel
theorem dX7_train_26 : decode cX7_train 26 = .ok (.invokevirtual 136, 3) := by decide +kernel
theorem dX7_train_29 : decode cX7_train 29 = .ok (.ireturn, 1) := by decide +kernel
theorem dX7_waits_0 : decode cX7_waits 0 = .ok (.iload_n 1, 1) := by decide +kernel
theorem dX7_waits_1 : decode cX7_waits 1 = .ok (.invokestatic 140, 3) := by decide +kernel
theorem dX7_waits_4 : decode cX7_waits 4 = .ok (.ifCond .eq 10, 3) := by decide +kernel
theorem dX7_waits_7 : decode cX7_waits 7 = .ok (.iload_n 2, 1) := by decide +kernel
theorem dX7_waits_8 : decode cX7_waits 8 = .ok (.invokestatic 143, 3) := by decide +kernel
theorem dX7_waits_11 : decode cX7_waits 11 = .ok (.ifCond .ne 5, 3) := by decide +kernel
theorem dX7_waits_14 : decode cX7_waits 14 = .ok (.iconst (-1), 1) := by decide +kernel
theorem dX7_waits_15 : decode cX7_waits 15 = .ok (.ireturn, 1) := by decide +kernel
theorem dX7_waits_16 : decode cX7_waits 16 = .ok (.iload_n 1, 1) := by decide +kernel
theorem dX7_waits_17 : decode cX7_waits 17 = .ok (.iload_n 2, 1) := by decide +kernel
theorem dX7_waits_18 : decode cX7_waits 18 = .ok (.invokestatic 146, 3) := by decide +kernel
theorem dX7_waits_21 : decode cX7_waits 21 = .ok (.ireturn, 1) := by decide +kernel
theorem dX7_hang_0 : decode cX7_hang 0 = .ok (.aload_n 0, 1) := by decide +kernel
theorem dX7_hang_1 : decode cX7_hang 1 = .ok (.getfield 10, 3) := by decide +kernel
theorem dX7_hang_4 : decode cX7_hang 4 = .ok (.iload_n 1, 1) := by decide +kernel
theorem dX7_hang_5 : decode cX7_hang 5 = .ok (.iload_n 2, 1) := by decide +kernel
theorem dX7_hang_6 : decode cX7_hang 6 = .ok (.invokevirtual 149, 3) := by decide +kernel
theorem dX7_hang_9 : decode cX7_hang 9 = .ok (.ireturn, 1) := by decide +kernel
theorem dX7_guard_0 : decode cX7_guard 0 = .ok (.aload_n 0, 1) := by decide +kernel
theorem dX7_guard_1 : decode cX7_guard 1 = .ok (.getfield 10, 3) := by decide +kernel
theorem dX7_guard_4 : decode cX7_guard 4 = .ok (.iload_n 1, 1) := by decide +kernel
theorem dX7_guard_5 : decode cX7_guard 5 = .ok (.invokevirtual 113, 3) := by decide +kernel
theorem dX7_guard_8 : decode cX7_guard 8 = .ok (.ifCond .ne 5, 3) := by decide +kernel
theorem dX7_guard_11 : decode cX7_guard 11 = .ok (.iconst (-1), 1) := by decide +kernel
theorem dX7_guard_12 : decode cX7_guard 12 = .ok (.ireturn, 1) := by decide +kernel
theorem dX7_guard_13 : decode cX7_guard 13 = .ok (.aload_n 0, 1) := by decide +kernel
theorem dX7_guard_14 : decode cX7_guard 14 = .ok (.getfield 10, 3) := by decide +kernel
theorem dX7_guard_17 : decode cX7_guard 17 = .ok (.iload_n 1, 1) := by decide +kernel
theorem dX7_guard_18 : decode cX7_guard 18 = .ok (.invokevirtual 120, 3) := by decide +kernel
theorem dX7_guard_21 : decode cX7_guard 21 = .ok (.ifCond .eq 7, 3) := by decide +kernel
theorem dX7_guard_24 : decode cX7_guard 24 = .ok (.iconst 1, 1) := by decide +kernel
theorem dX7_guard_25 : decode cX7_guard 25 = .ok (.goto 4, 3) := by decide +kernel
theorem dX7_guard_28 : decode cX7_guard 28 = .ok (.iconst 0, 1) := by decide +kernel
theorem dX7_guard_29 : decode cX7_guard 29 = .ok (.istore_n 3, 1) := by decide +kernel
theorem dX7_guard_30 : decode cX7_guard 30 = .ok (.aload_n 0, 1) := by decide +kernel
theorem dX7_guard_31 : decode cX7_guard 31 = .ok (.getfield 10, 3) := by decide +kernel
theorem dX7_guard_34 : decode cX7_guard 34 = .ok (.iload_n 2, 1) := by decide +kernel
theorem dX7_guard_35 : decode cX7_guard 35 = .ok (.ifCond .eq 17, 3) := by decide +kernel
theorem dX7_guard_38 : decode cX7_guard 38 = .ok (.aload_n 0, 1) := by decide +kernel
theorem dX7_guard_39 : decode cX7_guard 39 = .ok (.getfield 10, 3) := by decide +kernel
theorem dX7_guard_42 : decode cX7_guard 42 = .ok (.getfield 106, 3) := by decide +kernel
theorem dX7_guard_45 : decode cX7_guard 45 = .ok (.iconst 1, 1) := by decide +kernel
theorem dX7_guard_46 : decode cX7_guard 46 = .ok (.iload_n 1, 1) := by decide +kernel
theorem dX7_guard_47 : decode cX7_guard 47 = .ok (.ishl, 1) := by decide +kernel
theorem dX7_guard_48 : decode cX7_guard 48 = .ok (.ior, 1) := by decide +kernel
theorem dX7_guard_49 : decode cX7_guard 49 = .ok (.goto 16, 3) := by decide +kernel
theorem dX7_guard_52 : decode cX7_guard 52 = .ok (.aload_n 0, 1) := by decide +kernel
theorem dX7_guard_53 : decode cX7_guard 53 = .ok (.getfield 10, 3) := by decide +kernel
theorem dX7_guard_56 : decode cX7_guard 56 = .ok (.getfield 106, 3) := by decide +kernel
theorem dX7_guard_59 : decode cX7_guard 59 = .ok (.iconst 1, 1) := by decide +kernel
theorem dX7_guard_60 : decode cX7_guard 60 = .ok (.iload_n 1, 1) := by decide +kernel
theorem dX7_guard_61 : decode cX7_guard 61 = .ok (.ishl, 1) := by decide +kernel
theorem dX7_guard_62 : decode cX7_guard 62 = .ok (.iconst (-1), 1) := by decide +kernel
theorem dX7_guard_63 : decode cX7_guard 63 = .ok (.ixor, 1) := by decide +kernel
theorem dX7_guard_64 : decode cX7_guard 64 = .ok (.iand, 1) := by decide +kernel
theorem dX7_guard_65 : decode cX7_guard 65 = .ok (.putfield 106, 3) := by decide +kernel
theorem dX7_guard_68 : decode cX7_guard 68 = .ok (.iload_n 3, 1) := by decide +kernel
theorem dX7_guard_69 : decode cX7_guard 69 = .ok (.ireturn, 1) := by decide +kernel
theorem dX7_set_0 : decode cX7_set 0 = .ok (.aload_n 0, 1) := by decide +kernel
theorem dX7_set_1 : decode cX7_set 1 = .ok (.getfield 10, 3) := by decide +kernel
theorem dX7_set_4 : decode cX7_set 4 = .ok (.iload_n 1, 1) := by decide +kernel
theorem dX7_set_5 : decode cX7_set 5 = .ok (.invokevirtual 130, 3) := by decide +kernel
theorem dX7_set_8 : decode cX7_set 8 = .ok (.ifCond .eq 23, 3) := by decide +kernel
theorem dX7_set_11 : decode cX7_set 11 = .ok (.iload_n 2, 1) := by decide +kernel
theorem dX7_set_12 : decode cX7_set 12 = .ok (.invokestatic 133, 3) := by decide +kernel
theorem dX7_set_15 : decode cX7_set 15 = .ok (.ifCond .eq 16, 3) := by decide +kernel
theorem dX7_set_18 : decode cX7_set 18 = .ok (.iload_n 3, 1) := by decide +kernel
theorem dX7_set_19 : decode cX7_set 19 = .ok (.ifCond .lt 12, 3) := by decide +kernel
theorem dX7_set_22 : decode cX7_set 22 = .ok (.iload_n 3, 1) := by decide +kernel
theorem dX7_set_23 : decode cX7_set 23 = .ok (.getstatic 152, 3) := by decide +kernel
theorem dX7_set_26 : decode cX7_set 26 = .ok (.iload_n 2, 1) := by decide +kernel
theorem dX7_set_27 : decode cX7_set 27 = .ok (.iaload, 1) := by decide +kernel
theorem dX7_set_28 : decode cX7_set 28 = .ok (.if_icmp .lt 5, 3) := by decide +kernel
theorem dX7_set_31 : decode cX7_set 31 = .ok (.iconst (-1), 1) := by decide +kernel
theorem dX7_set_32 : decode cX7_set 32 = .ok (.ireturn, 1) := by decide +kernel
theorem dX7_set_33 : decode cX7_set 33 = .ok (.aload_n 0, 1) := by decide +kernel
theorem dX7_set_34 : decode cX7_set 34 = .ok (.getfield 10, 3) := by decide +kernel
theorem dX7_set_37 : decode cX7_set 37 = .ok (.iload_n 1, 1) := by decide +kernel
theorem dX7_set_38 : decode cX7_set 38 = .ok (.iload_n 2, 1) := by decide +kernel
theorem dX7_set_39 : decode cX7_set 39 = .ok (.invokevirtual 136, 3) := by decide +kernel
theorem dX7_set_42 : decode cX7_set 42 = .ok (.istore 4, 2) := by decide +kernel
theorem dX7_set_44 : decode cX7_set 44 = .ok (.aload_n 0, 1) := by decide +kernel
theorem dX7_set_45 : decode cX7_set 45 = .ok (.getfield 10, 3) := by decide +kernel
theorem dX7_set_48 : decode cX7_set 48 = .ok (.iload_n 1, 1) := by decide +kernel
theorem dX7_set_49 : decode cX7_set 49 = .ok (.iload_n 2, 1) := by decide +kernel
theorem dX7_set_50 : decode cX7_set 50 = .ok (.iload_n 3, 1) := by decide +kernel
theorem dX7_set_51 : decode cX7_set 51 = .ok (.invokevirtual 155, 3) := by decide +kernel
theorem dX7_set_54 : decode cX7_set 54 = .ok (.iload 4, 2) := by decide +kernel
theorem dX7_set_56 : decode cX7_set 56 = .ok (.ireturn, 1) := by decide +kernel
theorem dX7_home_0 : decode cX7_home 0 = .ok (.aload_n 0, 1) := by decide +kernel
theorem dX7_home_1 : decode cX7_home 1 = .ok (.getfield 10, 3) := by decide +kernel
theorem dX7_home_4 : decode cX7_home 4 = .ok (.iload_n 1, 1) := by decide +kernel
theorem dX7_home_5 : decode cX7_home 5 = .ok (.invokevirtual 130, 3) := by decide +kernel
theorem dX7_home_8 : decode cX7_home 8 = .ok (.ifCond .ne 5, 3) := by decide +kernel
theorem dX7_home_11 : decode cX7_home 11 = .ok (.iconst (-1), 1) := by decide +kernel
theorem dX7_home_12 : decode cX7_home 12 = .ok (.ireturn, 1) := by decide +kernel
theorem dX7_home_13 : decode cX7_home 13 = .ok (.aload_n 0, 1) := by decide +kernel
theorem dX7_home_14 : decode cX7_home 14 = .ok (.getfield 29, 3) := by decide +kernel
theorem dX7_home_17 : decode cX7_home 17 = .ok (.aload_n 0, 1) := by decide +kernel
theorem dX7_home_18 : decode cX7_home 18 = .ok (.getfield 10, 3) := by decide +kernel
theorem dX7_home_21 : decode cX7_home 21 = .ok (.invokevirtual 159, 3) := by decide +kernel
theorem dX7_home_24 : decode cX7_home 24 = .ok (.aload_n 0, 1) := by decide +kernel
theorem dX7_home_25 : decode cX7_home 25 = .ok (.getfield 29, 3) := by decide +kernel
theorem dX7_home_28 : decode cX7_home 28 = .ok (.getfield 162, 3) := by decide +kernel
theorem dX7_home_31 : decode cX7_home 31 = .ok (.iload_n 1, 1) := by decide +kernel
theorem dX7_home_32 : decode cX7_home 32 = .ok (.iaload, 1) := by decide +kernel
theorem dX7_home_33 : decode cX7_home 33 = .ok (.ireturn, 1) := by decide +kernel
theorem dX7_at_0 : decode cX7_at 0 = .ok (.aload_n 0, 1) := by decide +kernel
theorem dX7_at_1 : decode cX7_at 1 = .ok (.getfield 10, 3) := by decide +kernel
theorem dX7_at_4 : decode cX7_at 4 = .ok (.iload_n 1, 1) := by decide +kernel
theorem dX7_at_5 : decode cX7_at 5 = .ok (.invokevirtual 130, 3) := by decide +kernel
theorem dX7_at_8 : decode cX7_at 8 = .ok (.ifCond .eq 10, 3) := by decide +kernel
theorem dX7_at_11 : decode cX7_at 11 = .ok (.iload_n 2, 1) := by decide +kernel
theorem dX7_at_12 : decode cX7_at 12 = .ok (.invokestatic 165, 3) := by decide +kernel
theorem dX7_at_15 : decode cX7_at 15 = .ok (.ifCond .ne 5, 3) := by decide +kernel
theorem dX7_at_18 : decode cX7_at 18 = .ok (.iconst (-1), 1) := by decide +kernel
theorem dX7_at_19 : decode cX7_at 19 = .ok (.ireturn, 1) := by decide +kernel
theorem dX7_at_20 : decode cX7_at 20 = .ok (.aload_n 0, 1) := by decide +kernel
theorem dX7_at_21 : decode cX7_at 21 = .ok (.getfield 29, 3) := by decide +kernel
theorem dX7_at_24 : decode cX7_at 24 = .ok (.aload_n 0, 1) := by decide +kernel
theorem dX7_at_25 : decode cX7_at 25 = .ok (.getfield 10, 3) := by decide +kernel
theorem dX7_at_28 : decode cX7_at 28 = .ok (.invokevirtual 159, 3) := by decide +kernel
theorem dX7_at_31 : decode cX7_at 31 = .ok (.aload_n 0, 1) := by decide +kernel
theorem dX7_at_32 : decode cX7_at 32 = .ok (.getfield 29, 3) := by decide +kernel
theorem dX7_at_35 : decode cX7_at 35 = .ok (.iload_n 1, 1) := by decide +kernel
theorem dX7_at_36 : decode cX7_at 36 = .ok (.iload_n 2, 1) := by decide +kernel
theorem dX7_at_37 : decode cX7_at 37 = .ok (.invokevirtual 168, 3) := by decide +kernel
theorem dX7_at_40 : decode cX7_at 40 = .ok (.ireturn, 1) := by decide +kernel
theorem dX7_bump_0 : decode cX7_bump 0 = .ok (.iload_n 1, 1) := by decide +kernel
theorem dX7_bump_1 : decode cX7_bump 1 = .ok (.ifCond .lt 8, 3) := by decide +kernel
theorem dX7_bump_4 : decode cX7_bump 4 = .ok (.iload_n 1, 1) := by decide +kernel
theorem dX7_bump_5 : decode cX7_bump 5 = .ok (.iconst 2, 1) := by decide +kernel
theorem dX7_bump_6 : decode cX7_bump 6 = .ok (.if_icmp .le 5, 3) := by decide +kernel
theorem dX7_bump_9 : decode cX7_bump 9 = .ok (.iconst (-1), 1) := by decide +kernel
theorem dX7_bump_10 : decode cX7_bump 10 = .ok (.ireturn, 1) := by decide +kernel
theorem dX7_bump_11 : decode cX7_bump 11 = .ok (.aload_n 0, 1) := by decide +kernel
theorem dX7_bump_12 : decode cX7_bump 12 = .ok (.getfield 29, 3) := by decide +kernel
theorem dX7_bump_15 : decode cX7_bump 15 = .ok (.aload_n 0, 1) := by decide +kernel
theorem dX7_bump_16 : decode cX7_bump 16 = .ok (.getfield 10, 3) := by decide +kernel
theorem dX7_bump_19 : decode cX7_bump 19 = .ok (.invokevirtual 159, 3) := by decide +kernel
theorem dX7_bump_22 : decode cX7_bump 22 = .ok (.aload_n 0, 1) := by decide +kernel
theorem dX7_bump_23 : decode cX7_bump 23 = .ok (.getfield 29, 3) := by decide +kernel
theorem dX7_bump_26 : decode cX7_bump 26 = .ok (.getfield 171, 3) := by decide +kernel
theorem dX7_bump_29 : decode cX7_bump 29 = .ok (.bipush (-4), 2) := by decide +kernel
theorem dX7_bump_31 : decode cX7_bump 31 = .ok (.if_icmp .ne 6, 3) := by decide +kernel
theorem dX7_bump_34 : decode cX7_bump 34 = .ok (.bipush (-4), 2) := by decide +kernel
theorem dX7_bump_36 : decode cX7_bump 36 = .ok (.ireturn, 1) := by decide +kernel
theorem dX7_bump_37 : decode cX7_bump 37 = .ok (.iload_n 1, 1) := by decide +kernel
theorem dX7_bump_38 : decode cX7_bump 38 = .ok (.ifCond .ne 11, 3) := by decide +kernel
theorem dX7_bump_41 : decode cX7_bump 41 = .ok (.aload_n 0, 1) := by decide +kernel
theorem dX7_bump_42 : decode cX7_bump 42 = .ok (.getfield 29, 3) := by decide +kernel
theorem dX7_bump_45 : decode cX7_bump 45 = .ok (.getfield 171, 3) := by decide +kernel
theorem dX7_bump_48 : decode cX7_bump 48 = .ok (.ireturn, 1) := by decide +kernel
theorem dX7_bump_49 : decode cX7_bump 49 = .ok (.iload_n 1, 1) := by decide +kernel
theorem dX7_bump_50 : decode cX7_bump 50 = .ok (.iconst 1, 1) := by decide +kernel
theorem dX7_bump_51 : decode cX7_bump 51 = .ok (.if_icmp .ne 13, 3) := by decide +kernel
theorem dX7_bump_54 : decode cX7_bump 54 = .ok (.aload_n 0, 1) := by decide +kernel
theorem dX7_bump_55 : decode cX7_bump 55 = .ok (.getfield 29, 3) := by decide +kernel
theorem dX7_bump_58 : decode cX7_bump 58 = .ok (.getfield 174, 3) := by decide +kernel
theorem dX7_bump_61 : decode cX7_bump 61 = .ok (.goto 10, 3) := by decide +kernel
theorem dX7_bump_64 : decode cX7_bump 64 = .ok (.aload_n 0, 1) := by decide +kernel
theorem dX7_bump_65 : decode cX7_bump 65 = .ok (.getfield 29, 3) := by decide +kernel
theorem dX7_bump_68 : decode cX7_bump 68 = .ok (.getfield 177, 3) := by decide +kernel
theorem dX7_bump_71 : decode cX7_bump 71 = .ok (.ireturn, 1) := by decide +kernel
theorem dX7_sum_0 : decode cX7_sum 0 = .ok (.iload_n 1, 1) := by decide +kernel
theorem dX7_sum_1 : decode cX7_sum 1 = .ok (.ifCond .lt 8, 3) := by decide +kernel
theorem dX7_sum_4 : decode cX7_sum 4 = .ok (.iload_n 1, 1) := by decide +kernel
theorem dX7_sum_5 : decode cX7_sum 5 = .ok (.iconst 4, 1) := by decide +kernel
theorem dX7_sum_6 : decode cX7_sum 6 = .ok (.if_icmp .le 5, 3) := by decide +kernel
theorem dX7_sum_9 : decode cX7_sum 9 = .ok (.iconst (-1), 1) := by decide +kernel
theorem dX7_sum_10 : decode cX7_sum 10 = .ok (.ireturn, 1) := by decide +kernel
theorem dX7_sum_11 : decode cX7_sum 11 = .ok (.aload_n 0, 1) := by decide +kernel
theorem dX7_sum_12 : decode cX7_sum 12 = .ok (.getfield 29, 3) := by decide +kernel
theorem dX7_sum_15 : decode cX7_sum 15 = .ok (.aload_n 0, 1) := by decide +kernel
theorem dX7_sum_16 : decode cX7_sum 16 = .ok (.getfield 10, 3) := by decide +kernel
theorem dX7_sum_19 : decode cX7_sum 19 = .ok (.invokevirtual 159, 3) := by decide +kernel
theorem dX7_sum_22 : decode cX7_sum 22 = .ok (.iload_n 1, 1) := by decide +kernel
theorem dX7_sum_23 : decode cX7_sum 23 = .ok (.tableswitch 61 0 3 #[29, 37, 45, 53], 29) := by decide +kernel
theorem dX7_sum_52 : decode cX7_sum 52 = .ok (.aload_n 0, 1) := by decide +kernel
theorem dX7_sum_53 : decode cX7_sum 53 = .ok (.getfield 29, 3) := by decide +kernel
theorem dX7_sum_56 : decode cX7_sum 56 = .ok (.getfield 180, 3) := by decide +kernel
theorem dX7_sum_59 : decode cX7_sum 59 = .ok (.ireturn, 1) := by decide +kernel
theorem dX7_sum_60 : decode cX7_sum 60 = .ok (.aload_n 0, 1) := by decide +kernel
theorem dX7_sum_61 : decode cX7_sum 61 = .ok (.getfield 29, 3) := by decide +kernel
theorem dX7_sum_64 : decode cX7_sum 64 = .ok (.getfield 183, 3) := by decide +kernel
theorem dX7_sum_67 : decode cX7_sum 67 = .ok (.ireturn, 1) := by decide +kernel
theorem dX7_sum_68 : decode cX7_sum 68 = .ok (.aload_n 0, 1) := by decide +kernel
theorem dX7_sum_69 : decode cX7_sum 69 = .ok (.getfield 29, 3) := by decide +kernel
theorem dX7_sum_72 : decode cX7_sum 72 = .ok (.getfield 186, 3) := by decide +kernel
theorem dX7_sum_75 : decode cX7_sum 75 = .ok (.ireturn, 1) := by decide +kernel
theorem dX7_sum_76 : decode cX7_sum 76 = .ok (.aload_n 0, 1) := by decide +kernel
theorem dX7_sum_77 : decode cX7_sum 77 = .ok (.getfield 29, 3) := by decide +kernel
theorem dX7_sum_80 : decode cX7_sum 80 = .ok (.getfield 189, 3) := by decide +kernel
theorem dX7_sum_83 : decode cX7_sum 83 = .ok (.ireturn, 1) := by decide +kernel
theorem dX7_sum_84 : decode cX7_sum 84 = .ok (.aload_n 0, 1) := by decide +kernel
theorem dX7_sum_85 : decode cX7_sum 85 = .ok (.getfield 29, 3) := by decide +kernel
theorem dX7_sum_88 : decode cX7_sum 88 = .ok (.getfield 192, 3) := by decide +kernel
theorem dX7_sum_91 : decode cX7_sum 91 = .ok (.ireturn, 1) := by decide +kernel
theorem dX7_fewest_0 : decode cX7_fewest 0 = .ok (.iload_n 1, 1) := by decide +kernel
theorem dX7_fewest_1 : decode cX7_fewest 1 = .ok (.invokestatic 195, 3) := by decide +kernel
theorem dX7_fewest_4 : decode cX7_fewest 4 = .ok (.ifCond .ne 5, 3) := by decide +kernel
theorem dX7_fewest_7 : decode cX7_fewest 7 = .ok (.iconst (-1), 1) := by decide +kernel
theorem dX7_fewest_8 : decode cX7_fewest 8 = .ok (.ireturn, 1) := by decide +kernel
theorem dX7_fewest_9 : decode cX7_fewest 9 = .ok (.aload_n 0, 1) := by decide +kernel
theorem dX7_fewest_10 : decode cX7_fewest 10 = .ok (.getfield 38, 3) := by decide +kernel
theorem dX7_fewest_13 : decode cX7_fewest 13 = .ok (.aload_n 0, 1) := by decide +kernel
theorem dX7_fewest_14 : decode cX7_fewest 14 = .ok (.getfield 10, 3) := by decide +kernel
theorem dX7_fewest_17 : decode cX7_fewest 17 = .ok (.invokevirtual 198, 3) := by decide +kernel
theorem dX7_fewest_20 : decode cX7_fewest 20 = .ok (.iload_n 1, 1) := by decide +kernel
theorem dX7_fewest_21 : decode cX7_fewest 21 = .ok (.invokestatic 201, 3) := by decide +kernel
theorem dX7_fewest_24 : decode cX7_fewest 24 = .ok (.ireturn, 1) := by decide +kernel
theorem dX7_guards_0 : decode cX7_guards 0 = .ok (.iload_n 1, 1) := by decide +kernel
theorem dX7_guards_1 : decode cX7_guards 1 = .ok (.invokestatic 195, 3) := by decide +kernel
theorem dX7_guards_4 : decode cX7_guards 4 = .ok (.ifCond .ne 5, 3) := by decide +kernel
theorem dX7_guards_7 : decode cX7_guards 7 = .ok (.iconst (-1), 1) := by decide +kernel
theorem dX7_guards_8 : decode cX7_guards 8 = .ok (.ireturn, 1) := by decide +kernel
theorem dX7_guards_9 : decode cX7_guards 9 = .ok (.aload_n 0, 1) := by decide +kernel
theorem dX7_guards_10 : decode cX7_guards 10 = .ok (.getfield 38, 3) := by decide +kernel
theorem dX7_guards_13 : decode cX7_guards 13 = .ok (.aload_n 0, 1) := by decide +kernel
theorem dX7_guards_14 : decode cX7_guards 14 = .ok (.getfield 10, 3) := by decide +kernel
theorem dX7_guards_17 : decode cX7_guards 17 = .ok (.invokevirtual 204, 3) := by decide +kernel
theorem dX7_guards_20 : decode cX7_guards 20 = .ok (.istore_n 2, 1) := by decide +kernel
theorem dX7_guards_21 : decode cX7_guards 21 = .ok (.iload_n 1, 1) := by decide +kernel
theorem dX7_guards_22 : decode cX7_guards 22 = .ok (.ifCond .ne 13, 3) := by decide +kernel
theorem dX7_guards_25 : decode cX7_guards 25 = .ok (.aload_n 0, 1) := by decide +kernel
theorem dX7_guards_26 : decode cX7_guards 26 = .ok (.getfield 38, 3) := by decide +kernel
theorem dX7_guards_29 : decode cX7_guards 29 = .ok (.getfield 207, 3) := by decide +kernel
theorem dX7_guards_32 : decode cX7_guards 32 = .ok (.goto 4, 3) := by decide +kernel
theorem dX7_guards_35 : decode cX7_guards 35 = .ok (.iload_n 2, 1) := by decide +kernel
theorem dX7_guards_36 : decode cX7_guards 36 = .ok (.ireturn, 1) := by decide +kernel
theorem dX7_magpies_0 : decode cX7_magpies 0 = .ok (.iload_n 1, 1) := by decide +kernel
theorem dX7_magpies_1 : decode cX7_magpies 1 = .ok (.invokestatic 195, 3) := by decide +kernel
theorem dX7_magpies_4 : decode cX7_magpies 4 = .ok (.ifCond .ne 5, 3) := by decide +kernel
theorem dX7_magpies_7 : decode cX7_magpies 7 = .ok (.iconst (-1), 1) := by decide +kernel
theorem dX7_magpies_8 : decode cX7_magpies 8 = .ok (.ireturn, 1) := by decide +kernel
theorem dX7_magpies_9 : decode cX7_magpies 9 = .ok (.aload_n 0, 1) := by decide +kernel
theorem dX7_magpies_10 : decode cX7_magpies 10 = .ok (.getfield 38, 3) := by decide +kernel
theorem dX7_magpies_13 : decode cX7_magpies 13 = .ok (.aload_n 0, 1) := by decide +kernel
theorem dX7_magpies_14 : decode cX7_magpies 14 = .ok (.getfield 10, 3) := by decide +kernel
theorem dX7_magpies_17 : decode cX7_magpies 17 = .ok (.invokevirtual 210, 3) := by decide +kernel
theorem dX7_magpies_20 : decode cX7_magpies 20 = .ok (.iload_n 1, 1) := by decide +kernel
theorem dX7_magpies_21 : decode cX7_magpies 21 = .ok (.invokestatic 201, 3) := by decide +kernel
theorem dX7_magpies_24 : decode cX7_magpies 24 = .ok (.ireturn, 1) := by decide +kernel
theorem dX7_starts_0 : decode cX7_starts 0 = .ok (.iload_n 1, 1) := by decide +kernel
theorem dX7_starts_1 : decode cX7_starts 1 = .ok (.ifCond .eq 19, 3) := by decide +kernel
theorem dX7_starts_4 : decode cX7_starts 4 = .ok (.aload_n 0, 1) := by decide +kernel
theorem dX7_starts_5 : decode cX7_starts 5 = .ok (.getfield 10, 3) := by decide +kernel
theorem dX7_starts_8 : decode cX7_starts 8 = .ok (.iload_n 1, 1) := by decide +kernel
theorem dX7_starts_9 : decode cX7_starts 9 = .ok (.bipush 10, 2) := by decide +kernel
theorem dX7_starts_11 : decode cX7_starts 11 = .ok (.isub, 1) := by decide +kernel
theorem dX7_starts_12 : decode cX7_starts 12 = .ok (.invokevirtual 130, 3) := by decide +kernel
theorem dX7_starts_15 : decode cX7_starts 15 = .ok (.ifCond .ne 5, 3) := by decide +kernel
theorem dX7_starts_18 : decode cX7_starts 18 = .ok (.iconst (-1), 1) := by decide +kernel
theorem dX7_starts_19 : decode cX7_starts 19 = .ok (.ireturn, 1) := by decide +kernel
theorem dX7_starts_20 : decode cX7_starts 20 = .ok (.aload_n 0, 1) := by decide +kernel
theorem dX7_starts_21 : decode cX7_starts 21 = .ok (.getfield 38, 3) := by decide +kernel
theorem dX7_starts_24 : decode cX7_starts 24 = .ok (.aload_n 0, 1) := by decide +kernel
theorem dX7_starts_25 : decode cX7_starts 25 = .ok (.getfield 10, 3) := by decide +kernel
theorem dX7_starts_28 : decode cX7_starts 28 = .ok (.invokevirtual 213, 3) := by decide +kernel
theorem dX7_starts_31 : decode cX7_starts 31 = .ok (.istore_n 2, 1) := by decide +kernel
theorem dX7_starts_32 : decode cX7_starts 32 = .ok (.iload_n 2, 1) := by decide +kernel
theorem dX7_starts_33 : decode cX7_starts 33 = .ok (.bipush (-4), 2) := by decide +kernel
theorem dX7_starts_35 : decode cX7_starts 35 = .ok (.if_icmp .eq 7, 3) := by decide +kernel
theorem dX7_starts_38 : decode cX7_starts 38 = .ok (.iload_n 1, 1) := by decide +kernel
theorem dX7_starts_39 : decode cX7_starts 39 = .ok (.ifCond .ne 11, 3) := by decide +kernel
theorem dX7_starts_42 : decode cX7_starts 42 = .ok (.aload_n 0, 1) := by decide +kernel
theorem dX7_starts_43 : decode cX7_starts 43 = .ok (.getfield 38, 3) := by decide +kernel
theorem dX7_starts_46 : decode cX7_starts 46 = .ok (.getfield 207, 3) := by decide +kernel
theorem dX7_starts_49 : decode cX7_starts 49 = .ok (.ireturn, 1) := by decide +kernel
theorem dX7_starts_50 : decode cX7_starts 50 = .ok (.iload_n 2, 1) := by decide +kernel
theorem dX7_starts_51 : decode cX7_starts 51 = .ok (.iload_n 1, 1) := by decide +kernel
theorem dX7_starts_52 : decode cX7_starts 52 = .ok (.bipush 10, 2) := by decide +kernel
theorem dX7_starts_54 : decode cX7_starts 54 = .ok (.isub, 1) := by decide +kernel
theorem dX7_starts_55 : decode cX7_starts 55 = .ok (.aload_n 0, 1) := by decide +kernel
theorem dX7_starts_56 : decode cX7_starts 56 = .ok (.getfield 10, 3) := by decide +kernel
theorem dX7_starts_59 : decode cX7_starts 59 = .ok (.getfield 100, 3) := by decide +kernel
theorem dX7_starts_62 : decode cX7_starts 62 = .ok (.invokestatic 216, 3) := by decide +kernel
theorem dX7_starts_65 : decode cX7_starts 65 = .ok (.ireturn, 1) := by decide +kernel
theorem dX7_allowed_0 : decode cX7_allowed 0 = .ok (.iload_n 1, 1) := by decide +kernel
theorem dX7_allowed_1 : decode cX7_allowed 1 = .ok (.invokestatic 195, 3) := by decide +kernel
theorem dX7_allowed_4 : decode cX7_allowed 4 = .ok (.ifCond .ne 5, 3) := by decide +kernel
theorem dX7_allowed_7 : decode cX7_allowed 7 = .ok (.iconst (-1), 1) := by decide +kernel
theorem dX7_allowed_8 : decode cX7_allowed 8 = .ok (.ireturn, 1) := by decide +kernel
theorem dX7_allowed_9 : decode cX7_allowed 9 = .ok (.iconst 0, 1) := by decide +kernel
theorem dX7_allowed_10 : decode cX7_allowed 10 = .ok (.istore_n 2, 1) := by decide +kernel
theorem dX7_allowed_11 : decode cX7_allowed 11 = .ok (.iconst 0, 1) := by decide +kernel
theorem dX7_allowed_12 : decode cX7_allowed 12 = .ok (.istore_n 3, 1) := by decide +kernel
theorem dX7_allowed_13 : decode cX7_allowed 13 = .ok (.iconst 0, 1) := by decide +kernel
theorem dX7_allowed_14 : decode cX7_allowed 14 = .ok (.istore 4, 2) := by decide +kernel
theorem dX7_allowed_16 : decode cX7_allowed 16 = .ok (.iload 4, 2) := by decide +kernel
theorem dX7_allowed_18 : decode cX7_allowed 18 = .ok (.iconst 1, 1) := by decide +kernel
theorem dX7_allowed_19 : decode cX7_allowed 19 = .ok (.aload_n 0, 1) := by decide +kernel
theorem dX7_allowed_20 : decode cX7_allowed 20 = .ok (.getfield 10, 3) := by decide +kernel
theorem dX7_allowed_23 : decode cX7_allowed 23 = .ok (.getfield 97, 3) := by decide +kernel
theorem dX7_allowed_26 : decode cX7_allowed 26 = .ok (.ishl, 1) := by decide +kernel
theorem dX7_allowed_27 : decode cX7_allowed 27 = .ok (.if_icmp .ge 34, 3) := by decide +kernel
theorem dX7_allowed_30 : decode cX7_allowed 30 = .ok (.aload_n 0, 1) := by decide +kernel
theorem dX7_allowed_31 : decode cX7_allowed 31 = .ok (.getfield 10, 3) := by decide +kernel
theorem dX7_allowed_34 : decode cX7_allowed 34 = .ok (.iload 4, 2) := by decide +kernel
theorem dX7_allowed_36 : decode cX7_allowed 36 = .ok (.invokevirtual 220, 3) := by decide +kernel
theorem dX7_allowed_39 : decode cX7_allowed 39 = .ok (.ifCond .eq 16, 3) := by decide +kernel
theorem dX7_allowed_42 : decode cX7_allowed 42 = .ok (.iinc 2 1, 3) := by decide +kernel
theorem dX7_allowed_45 : decode cX7_allowed 45 = .ok (.iload_n 3, 1) := by decide +kernel
theorem dX7_allowed_46 : decode cX7_allowed 46 = .ok (.iload 4, 2) := by decide +kernel
theorem dX7_allowed_48 : decode cX7_allowed 48 = .ok (.invokestatic 223, 3) := by decide +kernel
theorem dX7_allowed_51 : decode cX7_allowed 51 = .ok (.invokestatic 228, 3) := by decide +kernel
theorem dX7_allowed_54 : decode cX7_allowed 54 = .ok (.istore_n 3, 1) := by decide +kernel
theorem dX7_allowed_55 : decode cX7_allowed 55 = .ok (.iinc 4 1, 3) := by decide +kernel
theorem dX7_allowed_58 : decode cX7_allowed 58 = .ok (.goto (-42), 3) := by decide +kernel
theorem dX7_allowed_61 : decode cX7_allowed 61 = .ok (.iload_n 1, 1) := by decide +kernel
theorem dX7_allowed_62 : decode cX7_allowed 62 = .ok (.ifCond .ne 7, 3) := by decide +kernel
theorem dX7_allowed_65 : decode cX7_allowed 65 = .ok (.iload_n 2, 1) := by decide +kernel
theorem dX7_allowed_66 : decode cX7_allowed 66 = .ok (.goto 4, 3) := by decide +kernel
theorem dX7_allowed_69 : decode cX7_allowed 69 = .ok (.iload_n 3, 1) := by decide +kernel
theorem dX7_allowed_70 : decode cX7_allowed 70 = .ok (.ireturn, 1) := by decide +kernel
theorem dX7_convert_0 : decode cX7_convert 0 = .ok (.iload_n 1, 1) := by decide +kernel
theorem dX7_convert_1 : decode cX7_convert 1 = .ok (.invokestatic 195, 3) := by decide +kernel
theorem dX7_convert_4 : decode cX7_convert 4 = .ok (.ifCond .ne 5, 3) := by decide +kernel
theorem dX7_convert_7 : decode cX7_convert 7 = .ok (.iconst (-1), 1) := by decide +kernel
theorem dX7_convert_8 : decode cX7_convert 8 = .ok (.ireturn, 1) := by decide +kernel
theorem dX7_convert_9 : decode cX7_convert 9 = .ok (.aload_n 0, 1) := by decide +kernel
theorem dX7_convert_10 : decode cX7_convert 10 = .ok (.getfield 38, 3) := by decide +kernel
theorem dX7_convert_13 : decode cX7_convert 13 = .ok (.aload_n 0, 1) := by decide +kernel
theorem dX7_convert_14 : decode cX7_convert 14 = .ok (.getfield 10, 3) := by decide +kernel
theorem dX7_convert_17 : decode cX7_convert 17 = .ok (.invokevirtual 233, 3) := by decide +kernel
theorem dX7_convert_20 : decode cX7_convert 20 = .ok (.istore_n 2, 1) := by decide +kernel
theorem dX7_convert_21 : decode cX7_convert 21 = .ok (.iload_n 1, 1) := by decide +kernel
theorem dX7_convert_22 : decode cX7_convert 22 = .ok (.ifCond .ne 7, 3) := by decide +kernel
theorem dX7_convert_25 : decode cX7_convert 25 = .ok (.iload_n 2, 1) := by decide +kernel
theorem dX7_convert_26 : decode cX7_convert 26 = .ok (.goto 10, 3) := by decide +kernel
theorem dX7_convert_29 : decode cX7_convert 29 = .ok (.aload_n 0, 1) := by decide +kernel
theorem dX7_convert_30 : decode cX7_convert 30 = .ok (.getfield 38, 3) := by decide +kernel
theorem dX7_convert_33 : decode cX7_convert 33 = .ok (.getfield 207, 3) := by decide +kernel
theorem dX7_convert_36 : decode cX7_convert 36 = .ok (.ireturn, 1) := by decide +kernel
theorem dX7_mean_0 : decode cX7_mean 0 = .ok (.iload_n 1, 1) := by decide +kernel
theorem dX7_mean_1 : decode cX7_mean 1 = .ok (.ifCond .lt 16, 3) := by decide +kernel
theorem dX7_mean_4 : decode cX7_mean 4 = .ok (.iload_n 1, 1) := by decide +kernel
theorem dX7_mean_5 : decode cX7_mean 5 = .ok (.bipush 10, 2) := by decide +kernel
theorem dX7_mean_7 : decode cX7_mean 7 = .ok (.if_icmp .gt 10, 3) := by decide +kernel
theorem dX7_mean_10 : decode cX7_mean 10 = .ok (.iload_n 2, 1) := by decide +kernel
theorem dX7_mean_11 : decode cX7_mean 11 = .ok (.invokestatic 195, 3) := by decide +kernel
theorem dX7_mean_14 : decode cX7_mean 14 = .ok (.ifCond .ne 7, 3) := by decide +kernel
theorem dX7_mean_17 : decode cX7_mean 17 = .ok (.ldc2_w 236, 3) := by decide +kernel
theorem dX7_mean_20 : decode cX7_mean 20 = .ok (.lreturn, 1) := by decide +kernel
theorem dX7_mean_21 : decode cX7_mean 21 = .ok (.aload_n 0, 1) := by decide +kernel
theorem dX7_mean_22 : decode cX7_mean 22 = .ok (.getfield 45, 3) := by decide +kernel
theorem dX7_mean_25 : decode cX7_mean 25 = .ok (.aload_n 0, 1) := by decide +kernel
theorem dX7_mean_26 : decode cX7_mean 26 = .ok (.getfield 10, 3) := by decide +kernel
theorem dX7_mean_29 : decode cX7_mean 29 = .ok (.iload_n 1, 1) := by decide +kernel
theorem dX7_mean_30 : decode cX7_mean 30 = .ok (.invokevirtual 238, 3) := by decide +kernel
theorem dX7_mean_33 : decode cX7_mean 33 = .ok (.aload_n 0, 1) := by decide +kernel
theorem dX7_mean_34 : decode cX7_mean 34 = .ok (.getfield 45, 3) := by decide +kernel
theorem dX7_mean_37 : decode cX7_mean 37 = .ok (.getfield 242, 3) := by decide +kernel
theorem dX7_mean_40 : decode cX7_mean 40 = .ok (.aload_n 0, 1) := by decide +kernel
theorem dX7_mean_41 : decode cX7_mean 41 = .ok (.getfield 45, 3) := by decide +kernel
theorem dX7_mean_44 : decode cX7_mean 44 = .ok (.getfield 246, 3) := by decide +kernel
theorem dX7_mean_47 : decode cX7_mean 47 = .ok (.iload_n 2, 1) := by decide +kernel
theorem dX7_mean_48 : decode cX7_mean 48 = .ok (.invokestatic 249, 3) := by decide +kernel
theorem dX7_mean_51 : decode cX7_mean 51 = .ok (.lreturn, 1) := by decide +kernel
theorem dX7_luck_0 : decode cX7_luck 0 = .ok (.iload_n 1, 1) := by decide +kernel
theorem dX7_luck_1 : decode cX7_luck 1 = .ok (.ifCond .lt 16, 3) := by decide +kernel
theorem dX7_luck_4 : decode cX7_luck 4 = .ok (.iload_n 1, 1) := by decide +kernel
theorem dX7_luck_5 : decode cX7_luck 5 = .ok (.bipush 10, 2) := by decide +kernel
theorem dX7_luck_7 : decode cX7_luck 7 = .ok (.if_icmp .gt 10, 3) := by decide +kernel
theorem dX7_luck_10 : decode cX7_luck 10 = .ok (.iload_n 2, 1) := by decide +kernel
theorem dX7_luck_11 : decode cX7_luck 11 = .ok (.invokestatic 195, 3) := by decide +kernel
theorem dX7_luck_14 : decode cX7_luck 14 = .ok (.ifCond .ne 7, 3) := by decide +kernel
theorem dX7_luck_17 : decode cX7_luck 17 = .ok (.ldc2_w 236, 3) := by decide +kernel
theorem dX7_luck_20 : decode cX7_luck 20 = .ok (.lreturn, 1) := by decide +kernel
theorem dX7_luck_21 : decode cX7_luck 21 = .ok (.aload_n 0, 1) := by decide +kernel
theorem dX7_luck_22 : decode cX7_luck 22 = .ok (.getfield 45, 3) := by decide +kernel
theorem dX7_luck_25 : decode cX7_luck 25 = .ok (.aload_n 0, 1) := by decide +kernel
theorem dX7_luck_26 : decode cX7_luck 26 = .ok (.getfield 10, 3) := by decide +kernel
theorem dX7_luck_29 : decode cX7_luck 29 = .ok (.iload_n 1, 1) := by decide +kernel
theorem dX7_luck_30 : decode cX7_luck 30 = .ok (.invokevirtual 238, 3) := by decide +kernel
theorem dX7_luck_33 : decode cX7_luck 33 = .ok (.aload_n 0, 1) := by decide +kernel
theorem dX7_luck_34 : decode cX7_luck 34 = .ok (.getfield 45, 3) := by decide +kernel
theorem dX7_luck_37 : decode cX7_luck 37 = .ok (.getfield 253, 3) := by decide +kernel
theorem dX7_luck_40 : decode cX7_luck 40 = .ok (.aload_n 0, 1) := by decide +kernel
theorem dX7_luck_41 : decode cX7_luck 41 = .ok (.getfield 45, 3) := by decide +kernel
theorem dX7_luck_44 : decode cX7_luck 44 = .ok (.getfield 246, 3) := by decide +kernel
theorem dX7_luck_47 : decode cX7_luck 47 = .ok (.iload_n 2, 1) := by decide +kernel
theorem dX7_luck_48 : decode cX7_luck 48 = .ok (.invokestatic 249, 3) := by decide +kernel
theorem dX7_luck_51 : decode cX7_luck 51 = .ok (.lreturn, 1) := by decide +kernel
theorem dX7_see_0 : decode cX7_see 0 = .ok (.aload_n 0, 1) := by decide +kernel
theorem dX7_see_1 : decode cX7_see 1 = .ok (.getfield 10, 3) := by decide +kernel
theorem dX7_see_4 : decode cX7_see 4 = .ok (.iload_n 1, 1) := by decide +kernel
theorem dX7_see_5 : decode cX7_see 5 = .ok (.invokevirtual 130, 3) := by decide +kernel
theorem dX7_see_8 : decode cX7_see 8 = .ok (.ifCond .eq 27, 3) := by decide +kernel
theorem dX7_see_11 : decode cX7_see 11 = .ok (.iload_n 2, 1) := by decide +kernel
theorem dX7_see_12 : decode cX7_see 12 = .ok (.invokestatic 165, 3) := by decide +kernel
theorem dX7_see_15 : decode cX7_see 15 = .ok (.ifCond .eq 20, 3) := by decide +kernel
theorem dX7_see_18 : decode cX7_see 18 = .ok (.iload_n 3, 1) := by decide +kernel
theorem dX7_see_19 : decode cX7_see 19 = .ok (.bipush (-4), 2) := by decide +kernel
theorem dX7_see_21 : decode cX7_see 21 = .ok (.if_icmp .eq 16, 3) := by decide +kernel
theorem dX7_see_24 : decode cX7_see 24 = .ok (.aload_n 0, 1) := by decide +kernel
theorem dX7_see_25 : decode cX7_see 25 = .ok (.getfield 10, 3) := by decide +kernel
theorem dX7_see_28 : decode cX7_see 28 = .ok (.iload_n 3, 1) := by decide +kernel
theorem dX7_see_29 : decode cX7_see 29 = .ok (.invokevirtual 113, 3) := by decide +kernel
theorem dX7_see_32 : decode cX7_see 32 = .ok (.ifCond .ne 5, 3) := by decide +kernel
theorem dX7_see_35 : decode cX7_see 35 = .ok (.iconst (-1), 1) := by decide +kernel
theorem dX7_see_36 : decode cX7_see 36 = .ok (.ireturn, 1) := by decide +kernel
theorem dX7_see_37 : decode cX7_see 37 = .ok (.aload_n 0, 1) := by decide +kernel
theorem dX7_see_38 : decode cX7_see 38 = .ok (.getfield 52, 3) := by decide +kernel
theorem dX7_see_41 : decode cX7_see 41 = .ok (.iload_n 1, 1) := by decide +kernel
theorem dX7_see_42 : decode cX7_see 42 = .ok (.iload_n 2, 1) := by decide +kernel
theorem dX7_see_43 : decode cX7_see 43 = .ok (.iload_n 3, 1) := by decide +kernel
theorem dX7_see_44 : decode cX7_see 44 = .ok (.invokevirtual 256, 3) := by decide +kernel
theorem dX7_see_47 : decode cX7_see 47 = .ok (.ifCond .eq 13, 3) := by decide +kernel
theorem dX7_see_50 : decode cX7_see 50 = .ok (.aload_n 0, 1) := by decide +kernel
theorem dX7_see_51 : decode cX7_see 51 = .ok (.getfield 52, 3) := by decide +kernel
theorem dX7_see_54 : decode cX7_see 54 = .ok (.getfield 96, 3) := by decide +kernel
theorem dX7_see_57 : decode cX7_see 57 = .ok (.goto 5, 3) := by decide +kernel
theorem dX7_see_60 : decode cX7_see 60 = .ok (.bipush (-3), 2) := by decide +kernel
theorem dX7_see_62 : decode cX7_see 62 = .ok (.ireturn, 1) := by decide +kernel
theorem dX7_forget_0 : decode cX7_forget 0 = .ok (.aload_n 0, 1) := by decide +kernel
theorem dX7_forget_1 : decode cX7_forget 1 = .ok (.getfield 52, 3) := by decide +kernel
theorem dX7_forget_4 : decode cX7_forget 4 = .ok (.getfield 96, 3) := by decide +kernel
theorem dX7_forget_7 : decode cX7_forget 7 = .ok (.istore_n 2, 1) := by decide +kernel
theorem dX7_forget_8 : decode cX7_forget 8 = .ok (.iload_n 1, 1) := by decide +kernel
theorem dX7_forget_9 : decode cX7_forget 9 = .ok (.ifCond .lt 8, 3) := by decide +kernel
theorem dX7_forget_12 : decode cX7_forget 12 = .ok (.iload_n 1, 1) := by decide +kernel
theorem dX7_forget_13 : decode cX7_forget 13 = .ok (.iload_n 2, 1) := by decide +kernel
theorem dX7_forget_14 : decode cX7_forget 14 = .ok (.if_icmp .le 5, 3) := by decide +kernel
theorem dX7_forget_17 : decode cX7_forget 17 = .ok (.iconst (-1), 1) := by decide +kernel
theorem dX7_forget_18 : decode cX7_forget 18 = .ok (.ireturn, 1) := by decide +kernel
theorem dX7_forget_19 : decode cX7_forget 19 = .ok (.aload_n 0, 1) := by decide +kernel
theorem dX7_forget_20 : decode cX7_forget 20 = .ok (.getfield 52, 3) := by decide +kernel
theorem dX7_forget_23 : decode cX7_forget 23 = .ok (.iload_n 1, 1) := by decide +kernel
theorem dX7_forget_24 : decode cX7_forget 24 = .ok (.putfield 96, 3) := by decide +kernel
theorem dX7_forget_27 : decode cX7_forget 27 = .ok (.iload_n 2, 1) := by decide +kernel
theorem dX7_forget_28 : decode cX7_forget 28 = .ok (.ireturn, 1) := by decide +kernel
theorem dX7_fits_0 : decode cX7_fits 0 = .ok (.aload_n 0, 1) := by decide +kernel
theorem dX7_fits_1 : decode cX7_fits 1 = .ok (.getfield 10, 3) := by decide +kernel
theorem dX7_fits_4 : decode cX7_fits 4 = .ok (.iload_n 1, 1) := by decide +kernel
theorem dX7_fits_5 : decode cX7_fits 5 = .ok (.invokevirtual 130, 3) := by decide +kernel
theorem dX7_fits_8 : decode cX7_fits 8 = .ok (.ifCond .ne 5, 3) := by decide +kernel
theorem dX7_fits_11 : decode cX7_fits 11 = .ok (.iconst (-1), 1) := by decide +kernel
theorem dX7_fits_12 : decode cX7_fits 12 = .ok (.ireturn, 1) := by decide +kernel
theorem dX7_fits_13 : decode cX7_fits 13 = .ok (.aload_n 0, 1) := by decide +kernel
theorem dX7_fits_14 : decode cX7_fits 14 = .ok (.getfield 52, 3) := by decide +kernel
theorem dX7_fits_17 : decode cX7_fits 17 = .ok (.aload_n 0, 1) := by decide +kernel
theorem dX7_fits_18 : decode cX7_fits 18 = .ok (.getfield 10, 3) := by decide +kernel
theorem dX7_fits_21 : decode cX7_fits 21 = .ok (.iload_n 1, 1) := by decide +kernel
theorem dX7_fits_22 : decode cX7_fits 22 = .ok (.invokevirtual 259, 3) := by decide +kernel
theorem dX7_fits_25 : decode cX7_fits 25 = .ok (.ireturn, 1) := by decide +kernel
theorem dX7_look_0 : decode cX7_look 0 = .ok (.aload_n 0, 1) := by decide +kernel
theorem dX7_look_1 : decode cX7_look 1 = .ok (.getfield 10, 3) := by decide +kernel
theorem dX7_look_4 : decode cX7_look 4 = .ok (.iload_n 1, 1) := by decide +kernel
theorem dX7_look_5 : decode cX7_look 5 = .ok (.invokevirtual 130, 3) := by decide +kernel
theorem dX7_look_8 : decode cX7_look 8 = .ok (.ifCond .eq 10, 3) := by decide +kernel
theorem dX7_look_11 : decode cX7_look 11 = .ok (.iload_n 2, 1) := by decide +kernel
theorem dX7_look_12 : decode cX7_look 12 = .ok (.invokestatic 195, 3) := by decide +kernel
theorem dX7_look_15 : decode cX7_look 15 = .ok (.ifCond .ne 5, 3) := by decide +kernel
theorem dX7_look_18 : decode cX7_look 18 = .ok (.iconst (-1), 1) := by decide +kernel
theorem dX7_look_19 : decode cX7_look 19 = .ok (.ireturn, 1) := by decide +kernel
theorem dX7_look_20 : decode cX7_look 20 = .ok (.aload_n 0, 1) := by decide +kernel
theorem dX7_look_21 : decode cX7_look 21 = .ok (.getfield 52, 3) := by decide +kernel
theorem dX7_look_24 : decode cX7_look 24 = .ok (.aload_n 0, 1) := by decide +kernel
theorem dX7_look_25 : decode cX7_look 25 = .ok (.getfield 52, 3) := by decide +kernel
theorem dX7_look_28 : decode cX7_look 28 = .ok (.aload_n 0, 1) := by decide +kernel
theorem dX7_look_29 : decode cX7_look 29 = .ok (.getfield 10, 3) := by decide +kernel
theorem dX7_look_32 : decode cX7_look 32 = .ok (.iload_n 1, 1) := by decide +kernel
theorem dX7_look_33 : decode cX7_look 33 = .ok (.invokevirtual 259, 3) := by decide +kernel
theorem dX7_look_36 : decode cX7_look 36 = .ok (.invokevirtual 263, 3) := by decide +kernel
theorem dX7_look_39 : decode cX7_look 39 = .ok (.istore_n 3, 1) := by decide +kernel
theorem dX7_look_40 : decode cX7_look 40 = .ok (.iload_n 2, 1) := by decide +kernel
theorem dX7_look_41 : decode cX7_look 41 = .ok (.ifCond .ne 7, 3) := by decide +kernel
theorem dX7_look_44 : decode cX7_look 44 = .ok (.iload_n 3, 1) := by decide +kernel
theorem dX7_look_45 : decode cX7_look 45 = .ok (.goto 10, 3) := by decide +kernel
theorem dX7_look_48 : decode cX7_look 48 = .ok (.aload_n 0, 1) := by decide +kernel
theorem dX7_look_49 : decode cX7_look 49 = .ok (.getfield 52, 3) := by decide +kernel
theorem dX7_look_52 : decode cX7_look 52 = .ok (.getfield 266, 3) := by decide +kernel
theorem dX7_look_55 : decode cX7_look 55 = .ok (.ireturn, 1) := by decide +kernel
theorem dX7_drift_0 : decode cX7_drift 0 = .ok (.iload_n 2, 1) := by decide +kernel
theorem dX7_drift_1 : decode cX7_drift 1 = .ok (.iconst 1, 1) := by decide +kernel
theorem dX7_drift_2 : decode cX7_drift 2 = .ok (.if_icmp .lt 16, 3) := by decide +kernel
theorem dX7_drift_5 : decode cX7_drift 5 = .ok (.iload_n 2, 1) := by decide +kernel
theorem dX7_drift_6 : decode cX7_drift 6 = .ok (.bipush 20, 2) := by decide +kernel
theorem dX7_drift_8 : decode cX7_drift 8 = .ok (.if_icmp .gt 10, 3) := by decide +kernel
theorem dX7_drift_11 : decode cX7_drift 11 = .ok (.iload_n 3, 1) := by decide +kernel
theorem dX7_drift_12 : decode cX7_drift 12 = .ok (.invokestatic 195, 3) := by decide +kernel
theorem dX7_drift_15 : decode cX7_drift 15 = .ok (.ifCond .ne 5, 3) := by decide +kernel
theorem dX7_drift_18 : decode cX7_drift 18 = .ok (.iconst (-1), 1) := by decide +kernel
theorem dX7_drift_19 : decode cX7_drift 19 = .ok (.ireturn, 1) := by decide +kernel
theorem dX7_drift_20 : decode cX7_drift 20 = .ok (.aload_n 0, 1) := by decide +kernel
theorem dX7_drift_21 : decode cX7_drift 21 = .ok (.getfield 16, 3) := by decide +kernel
theorem dX7_drift_24 : decode cX7_drift 24 = .ok (.aload_n 0, 1) := by decide +kernel
theorem dX7_drift_25 : decode cX7_drift 25 = .ok (.getfield 10, 3) := by decide +kernel
theorem dX7_drift_28 : decode cX7_drift 28 = .ok (.invokevirtual 92, 3) := by decide +kernel
theorem dX7_drift_31 : decode cX7_drift 31 = .ok (.iconst 0, 1) := by decide +kernel
theorem dX7_drift_32 : decode cX7_drift 32 = .ok (.istore 4, 2) := by decide +kernel
theorem dX7_drift_34 : decode cX7_drift 34 = .ok (.iconst 0, 1) := by decide +kernel
theorem dX7_drift_35 : decode cX7_drift 35 = .ok (.istore 5, 2) := by decide +kernel
theorem dX7_drift_37 : decode cX7_drift 37 = .ok (.iload_n 1, 1) := by decide +kernel
theorem dX7_drift_38 : decode cX7_drift 38 = .ok (.istore 6, 2) := by decide +kernel
theorem dX7_drift_40 : decode cX7_drift 40 = .ok (.iconst 0, 1) := by decide +kernel
theorem dX7_drift_41 : decode cX7_drift 41 = .ok (.istore 7, 2) := by decide +kernel
theorem dX7_drift_43 : decode cX7_drift 43 = .ok (.iload 7, 2) := by decide +kernel
theorem dX7_drift_45 : decode cX7_drift 45 = .ok (.iload_n 2, 1) := by decide +kernel
theorem dX7_drift_46 : decode cX7_drift 46 = .ok (.if_icmp .ge 98, 3) := by decide +kernel
theorem dX7_drift_49 : decode cX7_drift 49 = .ok (.iload 6, 2) := by decide +kernel
theorem dX7_drift_51 : decode cX7_drift 51 = .ok (.invokestatic 269, 3) := by decide +kernel
theorem dX7_drift_54 : decode cX7_drift 54 = .ok (.istore 6, 2) := by decide +kernel
theorem dX7_drift_56 : decode cX7_drift 56 = .ok (.iload 6, 2) := by decide +kernel
theorem dX7_drift_58 : decode cX7_drift 58 = .ok (.aload_n 0, 1) := by decide +kernel
theorem dX7_drift_59 : decode cX7_drift 59 = .ok (.getfield 10, 3) := by decide +kernel
theorem dX7_drift_62 : decode cX7_drift 62 = .ok (.getfield 97, 3) := by decide +kernel
theorem dX7_drift_65 : decode cX7_drift 65 = .ok (.invokestatic 272, 3) := by decide +kernel
theorem dX7_drift_68 : decode cX7_drift 68 = .ok (.istore 8, 2) := by decide +kernel
theorem dX7_drift_70 : decode cX7_drift 70 = .ok (.iload 6, 2) := by decide +kernel
theorem dX7_drift_72 : decode cX7_drift 72 = .ok (.invokestatic 269, 3) := by decide +kernel
theorem dX7_drift_75 : decode cX7_drift 75 = .ok (.istore 6, 2) := by decide +kernel
theorem dX7_drift_77 : decode cX7_drift 77 = .ok (.aload_n 0, 1) := by decide +kernel
theorem dX7_drift_78 : decode cX7_drift 78 = .ok (.getfield 16, 3) := by decide +kernel
theorem dX7_drift_81 : decode cX7_drift 81 = .ok (.iload 8, 2) := by decide +kernel
theorem dX7_drift_83 : decode cX7_drift 83 = .ok (.iload 6, 2) := by decide +kernel
theorem dX7_drift_85 : decode cX7_drift 85 = .ok (.iconst 5, 1) := by decide +kernel
theorem dX7_drift_86 : decode cX7_drift 86 = .ok (.invokestatic 272, 3) := by decide +kernel
theorem dX7_drift_89 : decode cX7_drift 89 = .ok (.invokevirtual 149, 3) := by decide +kernel
theorem dX7_drift_92 : decode cX7_drift 92 = .ok (.pop, 1) := by decide +kernel
theorem dX7_drift_93 : decode cX7_drift 93 = .ok (.aload_n 0, 1) := by decide +kernel
theorem dX7_drift_94 : decode cX7_drift 94 = .ok (.getfield 29, 3) := by decide +kernel
theorem dX7_drift_97 : decode cX7_drift 97 = .ok (.aload_n 0, 1) := by decide +kernel
theorem dX7_drift_98 : decode cX7_drift 98 = .ok (.getfield 16, 3) := by decide +kernel
theorem dX7_drift_101 : decode cX7_drift 101 = .ok (.invokevirtual 159, 3) := by decide +kernel
theorem dX7_drift_104 : decode cX7_drift 104 = .ok (.iload 4, 2) := by decide +kernel
theorem dX7_drift_106 : decode cX7_drift 106 = .ok (.aload_n 0, 1) := by decide +kernel
theorem dX7_drift_107 : decode cX7_drift 107 = .ok (.getfield 29, 3) := by decide +kernel
theorem dX7_drift_110 : decode cX7_drift 110 = .ok (.getfield 171, 3) := by decide +kernel
theorem dX7_drift_113 : decode cX7_drift 113 = .ok (.bipush (-4), 2) := by decide +kernel
theorem dX7_drift_115 : decode cX7_drift 115 = .ok (.if_icmp .ne 7, 3) := by decide +kernel
theorem dX7_drift_118 : decode cX7_drift 118 = .ok (.iconst 0, 1) := by decide +kernel
theorem dX7_drift_119 : decode cX7_drift 119 = .ok (.goto 4, 3) := by decide +kernel
theorem dX7_drift_122 : decode cX7_drift 122 = .ok (.iconst 1, 1) := by decide +kernel
theorem dX7_drift_123 : decode cX7_drift 123 = .ok (.iadd, 1) := by decide +kernel
theorem dX7_drift_124 : decode cX7_drift 124 = .ok (.istore 4, 2) := by decide +kernel
theorem dX7_drift_126 : decode cX7_drift 126 = .ok (.iload 5, 2) := by decide +kernel
theorem dX7_drift_128 : decode cX7_drift 128 = .ok (.aload_n 0, 1) := by decide +kernel
theorem dX7_drift_129 : decode cX7_drift 129 = .ok (.getfield 29, 3) := by decide +kernel
theorem dX7_drift_132 : decode cX7_drift 132 = .ok (.getfield 180, 3) := by decide +kernel
theorem dX7_drift_135 : decode cX7_drift 135 = .ok (.iadd, 1) := by decide +kernel
theorem dX7_drift_136 : decode cX7_drift 136 = .ok (.istore 5, 2) := by decide +kernel
theorem dX7_drift_138 : decode cX7_drift 138 = .ok (.iinc 7 1, 3) := by decide +kernel
theorem dX7_drift_141 : decode cX7_drift 141 = .ok (.goto (-98), 3) := by decide +kernel
theorem dX7_drift_144 : decode cX7_drift 144 = .ok (.iload_n 3, 1) := by decide +kernel
theorem dX7_drift_145 : decode cX7_drift 145 = .ok (.ifCond .ne 8, 3) := by decide +kernel
theorem dX7_drift_148 : decode cX7_drift 148 = .ok (.iload 4, 2) := by decide +kernel
theorem dX7_drift_150 : decode cX7_drift 150 = .ok (.goto 5, 3) := by decide +kernel
theorem dX7_drift_153 : decode cX7_drift 153 = .ok (.iload 5, 2) := by decide +kernel
theorem dX7_drift_155 : decode cX7_drift 155 = .ok (.ireturn, 1) := by decide +kernel
theorem dX7_keep_0 : decode cX7_keep 0 = .ok (.iload_n 1, 1) := by decide +kernel
theorem dX7_keep_1 : decode cX7_keep 1 = .ok (.ifCond .lt 8, 3) := by decide +kernel
theorem dX7_keep_4 : decode cX7_keep 4 = .ok (.iload_n 1, 1) := by decide +kernel
theorem dX7_keep_5 : decode cX7_keep 5 = .ok (.iconst 2, 1) := by decide +kernel
theorem dX7_keep_6 : decode cX7_keep 6 = .ok (.if_icmp .lt 5, 3) := by decide +kernel
theorem dX7_keep_9 : decode cX7_keep 9 = .ok (.iconst (-1), 1) := by decide +kernel
theorem dX7_keep_10 : decode cX7_keep 10 = .ok (.ireturn, 1) := by decide +kernel
theorem dX7_keep_11 : decode cX7_keep 11 = .ok (.aload_n 0, 1) := by decide +kernel
theorem dX7_keep_12 : decode cX7_keep 12 = .ok (.getfield 60, 3) := by decide +kernel
theorem dX7_keep_15 : decode cX7_keep 15 = .ok (.iload_n 1, 1) := by decide +kernel
theorem dX7_keep_16 : decode cX7_keep 16 = .ok (.baload, 1) := by decide +kernel
theorem dX7_keep_17 : decode cX7_keep 17 = .ok (.ifCond .eq 7, 3) := by decide +kernel
theorem dX7_keep_20 : decode cX7_keep 20 = .ok (.iconst 1, 1) := by decide +kernel
theorem dX7_keep_21 : decode cX7_keep 21 = .ok (.goto 4, 3) := by decide +kernel
theorem dX7_keep_24 : decode cX7_keep 24 = .ok (.iconst 0, 1) := by decide +kernel
theorem dX7_keep_25 : decode cX7_keep 25 = .ok (.istore_n 2, 1) := by decide +kernel
theorem dX7_keep_26 : decode cX7_keep 26 = .ok (.aload_n 0, 1) := by decide +kernel
theorem dX7_keep_27 : decode cX7_keep 27 = .ok (.getfield 56, 3) := by decide +kernel
theorem dX7_keep_30 : decode cX7_keep 30 = .ok (.iload_n 1, 1) := by decide +kernel
theorem dX7_keep_31 : decode cX7_keep 31 = .ok (.aaload, 1) := by decide +kernel
theorem dX7_keep_32 : decode cX7_keep 32 = .ok (.aload_n 0, 1) := by decide +kernel
theorem dX7_keep_33 : decode cX7_keep 33 = .ok (.getfield 10, 3) := by decide +kernel
theorem dX7_keep_36 : decode cX7_keep 36 = .ok (.invokevirtual 92, 3) := by decide +kernel
theorem dX7_keep_39 : decode cX7_keep 39 = .ok (.aload_n 0, 1) := by decide +kernel
theorem dX7_keep_40 : decode cX7_keep 40 = .ok (.getfield 60, 3) := by decide +kernel
theorem dX7_keep_43 : decode cX7_keep 43 = .ok (.iload_n 1, 1) := by decide +kernel
theorem dX7_keep_44 : decode cX7_keep 44 = .ok (.iconst 1, 1) := by decide +kernel
theorem dX7_keep_45 : decode cX7_keep 45 = .ok (.bastore, 1) := by decide +kernel
theorem dX7_keep_46 : decode cX7_keep 46 = .ok (.iload_n 2, 1) := by decide +kernel
theorem dX7_keep_47 : decode cX7_keep 47 = .ok (.ireturn, 1) := by decide +kernel
theorem dX7_back_0 : decode cX7_back 0 = .ok (.iload_n 1, 1) := by decide +kernel
theorem dX7_back_1 : decode cX7_back 1 = .ok (.ifCond .lt 8, 3) := by decide +kernel
theorem dX7_back_4 : decode cX7_back 4 = .ok (.iload_n 1, 1) := by decide +kernel
theorem dX7_back_5 : decode cX7_back 5 = .ok (.iconst 2, 1) := by decide +kernel
theorem dX7_back_6 : decode cX7_back 6 = .ok (.if_icmp .lt 5, 3) := by decide +kernel
theorem dX7_back_9 : decode cX7_back 9 = .ok (.iconst (-1), 1) := by decide +kernel
theorem dX7_back_10 : decode cX7_back 10 = .ok (.ireturn, 1) := by decide +kernel
theorem dX7_back_11 : decode cX7_back 11 = .ok (.aload_n 0, 1) := by decide +kernel
theorem dX7_back_12 : decode cX7_back 12 = .ok (.getfield 60, 3) := by decide +kernel
theorem dX7_back_15 : decode cX7_back 15 = .ok (.iload_n 1, 1) := by decide +kernel
theorem dX7_back_16 : decode cX7_back 16 = .ok (.baload, 1) := by decide +kernel
theorem dX7_back_17 : decode cX7_back 17 = .ok (.ifCond .ne 6, 3) := by decide +kernel
theorem dX7_back_20 : decode cX7_back 20 = .ok (.bipush (-2), 2) := by decide +kernel
theorem dX7_back_22 : decode cX7_back 22 = .ok (.ireturn, 1) := by decide +kernel
theorem dX7_back_23 : decode cX7_back 23 = .ok (.aload_n 0, 1) := by decide +kernel
theorem dX7_back_24 : decode cX7_back 24 = .ok (.getfield 10, 3) := by decide +kernel
theorem dX7_back_27 : decode cX7_back 27 = .ok (.aload_n 0, 1) := by decide +kernel
theorem dX7_back_28 : decode cX7_back 28 = .ok (.getfield 56, 3) := by decide +kernel
theorem dX7_back_31 : decode cX7_back 31 = .ok (.iload_n 1, 1) := by decide +kernel
theorem dX7_back_32 : decode cX7_back 32 = .ok (.aaload, 1) := by decide +kernel
theorem dX7_back_33 : decode cX7_back 33 = .ok (.invokevirtual 92, 3) := by decide +kernel
theorem dX7_back_36 : decode cX7_back 36 = .ok (.aload_n 0, 1) := by decide +kernel
theorem dX7_back_37 : decode cX7_back 37 = .ok (.getfield 10, 3) := by decide +kernel
theorem dX7_back_40 : decode cX7_back 40 = .ok (.invokevirtual 109, 3) := by decide +kernel
theorem dX7_back_43 : decode cX7_back 43 = .ok (.invokestatic 223, 3) := by decide +kernel
theorem dX7_back_46 : decode cX7_back 46 = .ok (.ireturn, 1) := by decide +kernel
theorem dX7_sheet_0 : decode cX7_sheet 0 = .ok (.iload_n 1, 1) := by decide +kernel
theorem dX7_sheet_1 : decode cX7_sheet 1 = .ok (.invokestatic 275, 3) := by decide +kernel
theorem dX7_sheet_4 : decode cX7_sheet 4 = .ok (.ifCond .eq 16, 3) := by decide +kernel
theorem dX7_sheet_7 : decode cX7_sheet 7 = .ok (.iload_n 2, 1) := by decide +kernel
theorem dX7_sheet_8 : decode cX7_sheet 8 = .ok (.invokestatic 278, 3) := by decide +kernel
theorem dX7_sheet_11 : decode cX7_sheet 11 = .ok (.ifCond .eq 9, 3) := by decide +kernel
theorem dX7_sheet_14 : decode cX7_sheet 14 = .ok (.iload_n 3, 1) := by decide +kernel
theorem dX7_sheet_15 : decode cX7_sheet 15 = .ok (.bipush 40, 2) := by decide +kernel
theorem dX7_sheet_17 : decode cX7_sheet 17 = .ok (.if_icmp .le 5, 3) := by decide +kernel
theorem dX7_sheet_20 : decode cX7_sheet 20 = .ok (.iconst (-1), 1) := by decide +kernel
theorem dX7_sheet_21 : decode cX7_sheet 21 = .ok (.ireturn, 1) := by decide +kernel
theorem dX7_sheet_22 : decode cX7_sheet 22 = .ok (.iload_n 3, 1) := by decide +kernel
theorem dX7_sheet_23 : decode cX7_sheet 23 = .ok (.ifCond .ge 6, 3) := by decide +kernel
theorem dX7_sheet_26 : decode cX7_sheet 26 = .ok (.bipush (-14), 2) := by decide +kernel
theorem dX7_sheet_28 : decode cX7_sheet 28 = .ok (.ireturn, 1) := by decide +kernel
theorem dX7_sheet_29 : decode cX7_sheet 29 = .ok (.aload_n 0, 1) := by decide +kernel
theorem dX7_sheet_30 : decode cX7_sheet 30 = .ok (.getfield 66, 3) := by decide +kernel
theorem dX7_sheet_33 : decode cX7_sheet 33 = .ok (.iload_n 1, 1) := by decide +kernel
theorem dX7_sheet_34 : decode cX7_sheet 34 = .ok (.aaload, 1) := by decide +kernel
theorem dX7_sheet_35 : decode cX7_sheet 35 = .ok (.iload_n 2, 1) := by decide +kernel
theorem dX7_sheet_36 : decode cX7_sheet 36 = .ok (.iload_n 3, 1) := by decide +kernel
theorem dX7_sheet_37 : decode cX7_sheet 37 = .ok (.invokevirtual 281, 3) := by decide +kernel
theorem dX7_sheet_40 : decode cX7_sheet 40 = .ok (.iconst 1, 1) := by decide +kernel
theorem dX7_sheet_41 : decode cX7_sheet 41 = .ok (.ireturn, 1) := by decide +kernel
theorem dX7_lay_0 : decode cX7_lay 0 = .ok (.iload_n 1, 1) := by decide +kernel
theorem dX7_lay_1 : decode cX7_lay 1 = .ok (.invokestatic 275, 3) := by decide +kernel
theorem dX7_lay_4 : decode cX7_lay 4 = .ok (.ifCond .ne 5, 3) := by decide +kernel
theorem dX7_lay_7 : decode cX7_lay 7 = .ok (.iconst (-1), 1) := by decide +kernel
theorem dX7_lay_8 : decode cX7_lay 8 = .ok (.ireturn, 1) := by decide +kernel
theorem dX7_lay_9 : decode cX7_lay 9 = .ok (.aload_n 0, 1) := by decide +kernel
theorem dX7_lay_10 : decode cX7_lay 10 = .ok (.getfield 66, 3) := by decide +kernel
theorem dX7_lay_13 : decode cX7_lay 13 = .ok (.iload_n 1, 1) := by decide +kernel
theorem dX7_lay_14 : decode cX7_lay 14 = .ok (.aaload, 1) := by decide +kernel
theorem dX7_lay_15 : decode cX7_lay 15 = .ok (.aload_n 0, 1) := by decide +kernel
theorem dX7_lay_16 : decode cX7_lay 16 = .ok (.getfield 66, 3) := by decide +kernel
theorem dX7_lay_19 : decode cX7_lay 19 = .ok (.iload_n 1, 1) := by decide +kernel
theorem dX7_lay_20 : decode cX7_lay 20 = .ok (.aaload, 1) := by decide +kernel
theorem dX7_lay_21 : decode cX7_lay 21 = .ok (.getfield 285, 3) := by decide +kernel
theorem dX7_lay_24 : decode cX7_lay 24 = .ok (.iload_n 2, 1) := by decide +kernel
theorem dX7_lay_25 : decode cX7_lay 25 = .ok (.invokevirtual 288, 3) := by decide +kernel
theorem dX7_lay_28 : decode cX7_lay 28 = .ok (.istore 4, 2) := by decide +kernel
theorem dX7_lay_30 : decode cX7_lay 30 = .ok (.iload 4, 2) := by decide +kernel
theorem dX7_lay_32 : decode cX7_lay 32 = .ok (.ifCond .eq 9, 3) := by decide +kernel
theorem dX7_lay_35 : decode cX7_lay 35 = .ok (.bipush (-10), 2) := by decide +kernel
theorem dX7_lay_37 : decode cX7_lay 37 = .ok (.iload 4, 2) := by decide +kernel
theorem dX7_lay_39 : decode cX7_lay 39 = .ok (.isub, 1) := by decide +kernel
theorem dX7_lay_40 : decode cX7_lay 40 = .ok (.ireturn, 1) := by decide +kernel
theorem dX7_lay_41 : decode cX7_lay 41 = .ok (.aload_n 0, 1) := by decide +kernel
theorem dX7_lay_42 : decode cX7_lay 42 = .ok (.getfield 66, 3) := by decide +kernel
theorem dX7_lay_45 : decode cX7_lay 45 = .ok (.iload_n 1, 1) := by decide +kernel
theorem dX7_lay_46 : decode cX7_lay 46 = .ok (.aaload, 1) := by decide +kernel
theorem dX7_lay_47 : decode cX7_lay 47 = .ok (.iload_n 2, 1) := by decide +kernel
theorem dX7_lay_48 : decode cX7_lay 48 = .ok (.iload_n 3, 1) := by decide +kernel
theorem dX7_lay_49 : decode cX7_lay 49 = .ok (.invokevirtual 291, 3) := by decide +kernel
theorem dX7_lay_52 : decode cX7_lay 52 = .ok (.iconst 1, 1) := by decide +kernel
theorem dX7_lay_53 : decode cX7_lay 53 = .ok (.ireturn, 1) := by decide +kernel
theorem dX7_read_0 : decode cX7_read 0 = .ok (.iload_n 1, 1) := by decide +kernel
theorem dX7_read_1 : decode cX7_read 1 = .ok (.invokestatic 275, 3) := by decide +kernel
theorem dX7_read_4 : decode cX7_read 4 = .ok (.ifCond .eq 22, 3) := by decide +kernel
theorem dX7_read_7 : decode cX7_read 7 = .ok (.iload_n 2, 1) := by decide +kernel
theorem dX7_read_8 : decode cX7_read 8 = .ok (.invokestatic 278, 3) := by decide +kernel
theorem dX7_read_11 : decode cX7_read 11 = .ok (.ifCond .eq 15, 3) := by decide +kernel
theorem dX7_read_14 : decode cX7_read 14 = .ok (.iload 4, 2) := by decide +kernel
theorem dX7_read_16 : decode cX7_read 16 = .ok (.ifCond .lt 10, 3) := by decide +kernel
theorem dX7_read_19 : decode cX7_read 19 = .ok (.iload 4, 2) := by decide +kernel
theorem dX7_read_21 : decode cX7_read 21 = .ok (.bipush 20, 2) := by decide +kernel
theorem dX7_read_23 : decode cX7_read 23 = .ok (.if_icmp .le 5, 3) := by decide +kernel
theorem dX7_read_26 : decode cX7_read 26 = .ok (.iconst (-1), 1) := by decide +kernel
theorem dX7_read_27 : decode cX7_read 27 = .ok (.ireturn, 1) := by decide +kernel
theorem dX7_read_28 : decode cX7_read 28 = .ok (.aload_n 0, 1) := by decide +kernel
theorem dX7_read_29 : decode cX7_read 29 = .ok (.getfield 66, 3) := by decide +kernel
theorem dX7_read_32 : decode cX7_read 32 = .ok (.iload_n 1, 1) := by decide +kernel
theorem dX7_read_33 : decode cX7_read 33 = .ok (.aaload, 1) := by decide +kernel
theorem dX7_read_34 : decode cX7_read 34 = .ok (.astore 5, 2) := by decide +kernel
theorem dX7_read_36 : decode cX7_read 36 = .ok (.aload_n 0, 1) := by decide +kernel
theorem dX7_read_37 : decode cX7_read 37 = .ok (.getfield 16, 3) := by decide +kernel
theorem dX7_read_40 : decode cX7_read 40 = .ok (.aload_n 0, 1) := by decide +kernel
theorem dX7_read_41 : decode cX7_read 41 = .ok (.getfield 10, 3) := by decide +kernel
theorem dX7_read_44 : decode cX7_read 44 = .ok (.invokevirtual 92, 3) := by decide +kernel
theorem dX7_read_47 : decode cX7_read 47 = .ok (.iconst 0, 1) := by decide +kernel
theorem dX7_read_48 : decode cX7_read 48 = .ok (.istore 6, 2) := by decide +kernel
theorem dX7_read_50 : decode cX7_read 50 = .ok (.iconst 0, 1) := by decide +kernel
theorem dX7_read_51 : decode cX7_read 51 = .ok (.istore 7, 2) := by decide +kernel
theorem dX7_read_53 : decode cX7_read 53 = .ok (.iconst 0, 1) := by decide +kernel
theorem dX7_read_54 : decode cX7_read 54 = .ok (.istore 8, 2) := by decide +kernel
theorem dX7_read_56 : decode cX7_read 56 = .ok (.iload 8, 2) := by decide +kernel
theorem dX7_read_58 : decode cX7_read 58 = .ok (.iload 4, 2) := by decide +kernel
theorem dX7_read_60 : decode cX7_read 60 = .ok (.if_icmp .ge 74, 3) := by decide +kernel
theorem dX7_read_63 : decode cX7_read 63 = .ok (.iload 6, 2) := by decide +kernel
theorem dX7_read_65 : decode cX7_read 65 = .ok (.ifCond .ne 69, 3) := by decide +kernel
theorem dX7_read_68 : decode cX7_read 68 = .ok (.iload_n 3, 1) := by decide +kernel
theorem dX7_read_69 : decode cX7_read 69 = .ok (.iconst 2, 1) := by decide +kernel
theorem dX7_read_70 : decode cX7_read 70 = .ok (.iload 8, 2) := by decide +kernel
theorem dX7_read_72 : decode cX7_read 72 = .ok (.imul, 1) := by decide +kernel
theorem dX7_read_73 : decode cX7_read 73 = .ok (.iadd, 1) := by decide +kernel
theorem dX7_read_74 : decode cX7_read 74 = .ok (.istore 9, 2) := by decide +kernel
theorem dX7_read_76 : decode cX7_read 76 = .ok (.aload 5, 2) := by decide +kernel
theorem dX7_read_78 : decode cX7_read 78 = .ok (.iload_n 2, 1) := by decide +kernel
theorem dX7_read_79 : decode cX7_read 79 = .ok (.iload 9, 2) := by decide +kernel
theorem dX7_read_81 : decode cX7_read 81 = .ok (.invokevirtual 294, 3) := by decide +kernel
theorem dX7_read_84 : decode cX7_read 84 = .ok (.istore 6, 2) := by decide +kernel
theorem dX7_read_86 : decode cX7_read 86 = .ok (.iload 6, 2) := by decide +kernel
theorem dX7_read_88 : decode cX7_read 88 = .ok (.ifCond .ne 40, 3) := by decide +kernel
theorem dX7_read_91 : decode cX7_read 91 = .ok (.aload_n 0, 1) := by decide +kernel
theorem dX7_read_92 : decode cX7_read 92 = .ok (.getfield 16, 3) := by decide +kernel
theorem dX7_read_95 : decode cX7_read 95 = .ok (.aload 5, 2) := by decide +kernel
theorem dX7_read_97 : decode cX7_read 97 = .ok (.getfield 297, 3) := by decide +kernel
theorem dX7_read_100 : decode cX7_read 100 = .ok (.iload 9, 2) := by decide +kernel
theorem dX7_read_102 : decode cX7_read 102 = .ok (.iaload, 1) := by decide +kernel
theorem dX7_read_103 : decode cX7_read 103 = .ok (.aload 5, 2) := by decide +kernel
theorem dX7_read_105 : decode cX7_read 105 = .ok (.getfield 297, 3) := by decide +kernel
theorem dX7_read_108 : decode cX7_read 108 = .ok (.iload 9, 2) := by decide +kernel
theorem dX7_read_110 : decode cX7_read 110 = .ok (.iconst 1, 1) := by decide +kernel
theorem dX7_read_111 : decode cX7_read 111 = .ok (.iadd, 1) := by decide +kernel
theorem dX7_read_112 : decode cX7_read 112 = .ok (.iaload, 1) := by decide +kernel
theorem dX7_read_113 : decode cX7_read 113 = .ok (.invokevirtual 149, 3) := by decide +kernel
theorem dX7_read_116 : decode cX7_read 116 = .ok (.ifCond .ge 9, 3) := by decide +kernel
theorem dX7_read_119 : decode cX7_read 119 = .ok (.bipush (-20), 2) := by decide +kernel
theorem dX7_read_121 : decode cX7_read 121 = .ok (.iload 8, 2) := by decide +kernel
theorem dX7_read_123 : decode cX7_read 123 = .ok (.isub, 1) := by decide +kernel
theorem dX7_read_124 : decode cX7_read 124 = .ok (.ireturn, 1) := by decide +kernel
theorem dX7_read_125 : decode cX7_read 125 = .ok (.iinc 7 1, 3) := by decide +kernel
theorem dX7_read_128 : decode cX7_read 128 = .ok (.iinc 8 1, 3) := by decide +kernel
theorem dX7_read_131 : decode cX7_read 131 = .ok (.goto (-75), 3) := by decide +kernel
theorem dX7_read_134 : decode cX7_read 134 = .ok (.aload_n 0, 1) := by decide +kernel
theorem dX7_read_135 : decode cX7_read 135 = .ok (.getfield 10, 3) := by decide +kernel
theorem dX7_read_138 : decode cX7_read 138 = .ok (.aload_n 0, 1) := by decide +kernel
theorem dX7_read_139 : decode cX7_read 139 = .ok (.getfield 16, 3) := by decide +kernel
theorem dX7_read_142 : decode cX7_read 142 = .ok (.invokevirtual 92, 3) := by decide +kernel
theorem dX7_read_145 : decode cX7_read 145 = .ok (.aload_n 0, 1) := by decide +kernel
theorem dX7_read_146 : decode cX7_read 146 = .ok (.iload 6, 2) := by decide +kernel
theorem dX7_read_148 : decode cX7_read 148 = .ok (.putfield 300, 3) := by decide +kernel
theorem dX7_read_151 : decode cX7_read 151 = .ok (.iload 7, 2) := by decide +kernel
theorem dX7_read_153 : decode cX7_read 153 = .ok (.ireturn, 1) := by decide +kernel
theorem dX7_torn_0 : decode cX7_torn 0 = .ok (.aload_n 0, 1) := by decide +kernel
theorem dX7_torn_1 : decode cX7_torn 1 = .ok (.getfield 300, 3) := by decide +kernel
theorem dX7_torn_4 : decode cX7_torn 4 = .ok (.ireturn, 1) := by decide +kernel
theorem dX7_count_0 : decode cX7_count 0 = .ok (.iload_n 1, 1) := by decide +kernel
theorem dX7_count_1 : decode cX7_count 1 = .ok (.tableswitch 131 0 5 #[39, 47, 77, 85, 112, 123], 39) := by decide +kernel
theorem dX7_count_40 : decode cX7_count 40 = .ok (.aload_n 0, 1) := by decide +kernel
theorem dX7_count_41 : decode cX7_count 41 = .ok (.getfield 52, 3) := by decide +kernel
theorem dX7_count_44 : decode cX7_count 44 = .ok (.getfield 96, 3) := by decide +kernel
theorem dX7_count_47 : decode cX7_count 47 = .ok (.ireturn, 1) := by decide +kernel
theorem dX7_count_48 : decode cX7_count 48 = .ok (.aload_n 0, 1) := by decide +kernel
theorem dX7_count_49 : decode cX7_count 49 = .ok (.getfield 60, 3) := by decide +kernel
theorem dX7_count_52 : decode cX7_count 52 = .ok (.iconst 0, 1) := by decide +kernel
theorem dX7_count_53 : decode cX7_count 53 = .ok (.baload, 1) := by decide +kernel
theorem dX7_count_54 : decode cX7_count 54 = .ok (.ifCond .eq 7, 3) := by decide +kernel
theorem dX7_count_57 : decode cX7_count 57 = .ok (.iconst 1, 1) := by decide +kernel
theorem dX7_count_58 : decode cX7_count 58 = .ok (.goto 4, 3) := by decide +kernel
theorem dX7_count_61 : decode cX7_count 61 = .ok (.iconst 0, 1) := by decide +kernel
theorem dX7_count_62 : decode cX7_count 62 = .ok (.aload_n 0, 1) := by decide +kernel
theorem dX7_count_63 : decode cX7_count 63 = .ok (.getfield 60, 3) := by decide +kernel
theorem dX7_count_66 : decode cX7_count 66 = .ok (.iconst 1, 1) := by decide +kernel
theorem dX7_count_67 : decode cX7_count 67 = .ok (.baload, 1) := by decide +kernel
theorem dX7_count_68 : decode cX7_count 68 = .ok (.ifCond .eq 7, 3) := by decide +kernel
theorem dX7_count_71 : decode cX7_count 71 = .ok (.iconst 1, 1) := by decide +kernel
theorem dX7_count_72 : decode cX7_count 72 = .ok (.goto 4, 3) := by decide +kernel
theorem dX7_count_75 : decode cX7_count 75 = .ok (.iconst 0, 1) := by decide +kernel
theorem dX7_count_76 : decode cX7_count 76 = .ok (.iadd, 1) := by decide +kernel
theorem dX7_count_77 : decode cX7_count 77 = .ok (.ireturn, 1) := by decide +kernel
theorem dX7_count_78 : decode cX7_count 78 = .ok (.aload_n 0, 1) := by decide +kernel
theorem dX7_count_79 : decode cX7_count 79 = .ok (.getfield 22, 3) := by decide +kernel
theorem dX7_count_82 : decode cX7_count 82 = .ok (.getfield 75, 3) := by decide +kernel
theorem dX7_count_85 : decode cX7_count 85 = .ok (.ireturn, 1) := by decide +kernel
theorem dX7_count_86 : decode cX7_count 86 = .ok (.aload_n 0, 1) := by decide +kernel
theorem dX7_count_87 : decode cX7_count 87 = .ok (.getfield 66, 3) := by decide +kernel
theorem dX7_count_90 : decode cX7_count 90 = .ok (.iconst 0, 1) := by decide +kernel
theorem dX7_count_91 : decode cX7_count 91 = .ok (.aaload, 1) := by decide +kernel
theorem dX7_count_92 : decode cX7_count 92 = .ok (.invokevirtual 303, 3) := by decide +kernel
theorem dX7_count_95 : decode cX7_count 95 = .ok (.ifCond .eq 8, 3) := by decide +kernel
theorem dX7_count_98 : decode cX7_count 98 = .ok (.bipush (-4), 2) := by decide +kernel
theorem dX7_count_100 : decode cX7_count 100 = .ok (.goto 12, 3) := by decide +kernel
theorem dX7_count_103 : decode cX7_count 103 = .ok (.aload_n 0, 1) := by decide +kernel
theorem dX7_count_104 : decode cX7_count 104 = .ok (.getfield 66, 3) := by decide +kernel
theorem dX7_count_107 : decode cX7_count 107 = .ok (.iconst 0, 1) := by decide +kernel
theorem dX7_count_108 : decode cX7_count 108 = .ok (.aaload, 1) := by decide +kernel
theorem dX7_count_109 : decode cX7_count 109 = .ok (.getfield 307, 3) := by decide +kernel
theorem dX7_count_112 : decode cX7_count 112 = .ok (.ireturn, 1) := by decide +kernel
theorem dX7_count_113 : decode cX7_count 113 = .ok (.aload_n 0, 1) := by decide +kernel
theorem dX7_count_114 : decode cX7_count 114 = .ok (.getfield 10, 3) := by decide +kernel
theorem dX7_count_117 : decode cX7_count 117 = .ok (.invokevirtual 109, 3) := by decide +kernel
theorem dX7_count_120 : decode cX7_count 120 = .ok (.invokestatic 223, 3) := by decide +kernel
theorem dX7_count_123 : decode cX7_count 123 = .ok (.ireturn, 1) := by decide +kernel
theorem dX7_count_124 : decode cX7_count 124 = .ok (.aload_n 0, 1) := by decide +kernel
theorem dX7_count_125 : decode cX7_count 125 = .ok (.getfield 10, 3) := by decide +kernel
theorem dX7_count_128 : decode cX7_count 128 = .ok (.invokevirtual 308, 3) := by decide +kernel
theorem dX7_count_131 : decode cX7_count 131 = .ok (.ireturn, 1) := by decide +kernel
theorem dX7_count_132 : decode cX7_count 132 = .ok (.iconst (-1), 1) := by decide +kernel
theorem dX7_count_133 : decode cX7_count 133 = .ok (.ireturn, 1) := by decide +kernel
theorem dX7_isZeroOrOne_0 : decode cX7_isZeroOrOne 0 = .ok (.iload_n 0, 1) := by decide +kernel
theorem dX7_isZeroOrOne_1 : decode cX7_isZeroOrOne 1 = .ok (.ifCond .eq 8, 3) := by decide +kernel
theorem dX7_isZeroOrOne_4 : decode cX7_isZeroOrOne 4 = .ok (.iload_n 0, 1) := by decide +kernel
theorem dX7_isZeroOrOne_5 : decode cX7_isZeroOrOne 5 = .ok (.iconst 1, 1) := by decide +kernel
theorem dX7_isZeroOrOne_6 : decode cX7_isZeroOrOne 6 = .ok (.if_icmp .ne 7, 3) := by decide +kernel
theorem dX7_isZeroOrOne_9 : decode cX7_isZeroOrOne 9 = .ok (.iconst 1, 1) := by decide +kernel
theorem dX7_isZeroOrOne_10 : decode cX7_isZeroOrOne 10 = .ok (.goto 4, 3) := by decide +kernel
theorem dX7_isZeroOrOne_13 : decode cX7_isZeroOrOne 13 = .ok (.iconst 0, 1) := by decide +kernel
theorem dX7_isZeroOrOne_14 : decode cX7_isZeroOrOne 14 = .ok (.ireturn, 1) := by decide +kernel
theorem dX7_isFact_0 : decode cX7_isFact 0 = .ok (.iload_n 0, 1) := by decide +kernel
theorem dX7_isFact_1 : decode cX7_isFact 1 = .ok (.ifCond .lt 12, 3) := by decide +kernel
theorem dX7_isFact_4 : decode cX7_isFact 4 = .ok (.iload_n 0, 1) := by decide +kernel
theorem dX7_isFact_5 : decode cX7_isFact 5 = .ok (.iconst 4, 1) := by decide +kernel
theorem dX7_isFact_6 : decode cX7_isFact 6 = .ok (.if_icmp .ge 7, 3) := by decide +kernel
theorem dX7_isFact_9 : decode cX7_isFact 9 = .ok (.iconst 1, 1) := by decide +kernel
theorem dX7_isFact_10 : decode cX7_isFact 10 = .ok (.goto 4, 3) := by decide +kernel
theorem dX7_isFact_13 : decode cX7_isFact 13 = .ok (.iconst 0, 1) := by decide +kernel
theorem dX7_isFact_14 : decode cX7_isFact 14 = .ok (.ireturn, 1) := by decide +kernel
theorem dX7_isFaith_0 : decode cX7_isFaith 0 = .ok (.iload_n 0, 1) := by decide +kernel
theorem dX7_isFaith_1 : decode cX7_isFaith 1 = .ok (.ifCond .lt 12, 3) := by decide +kernel
theorem dX7_isFaith_4 : decode cX7_isFaith 4 = .ok (.iload_n 0, 1) := by decide +kernel
theorem dX7_isFaith_5 : decode cX7_isFaith 5 = .ok (.iconst 4, 1) := by decide +kernel
theorem dX7_isFaith_6 : decode cX7_isFaith 6 = .ok (.if_icmp .ge 7, 3) := by decide +kernel
theorem dX7_isFaith_9 : decode cX7_isFaith 9 = .ok (.iconst 1, 1) := by decide +kernel
theorem dX7_isFaith_10 : decode cX7_isFaith 10 = .ok (.goto 4, 3) := by decide +kernel
theorem dX7_isFaith_13 : decode cX7_isFaith 13 = .ok (.iconst 0, 1) := by decide +kernel
theorem dX7_isFaith_14 : decode cX7_isFaith 14 = .ok (.ireturn, 1) := by decide +kernel
theorem dX7_isOmen_0 : decode cX7_isOmen 0 = .ok (.iload_n 0, 1) := by decide +kernel
theorem dX7_isOmen_1 : decode cX7_isOmen 1 = .ok (.ifCond .lt 12, 3) := by decide +kernel
theorem dX7_isOmen_4 : decode cX7_isOmen 4 = .ok (.iload_n 0, 1) := by decide +kernel
theorem dX7_isOmen_5 : decode cX7_isOmen 5 = .ok (.iconst 5, 1) := by decide +kernel
theorem dX7_isOmen_6 : decode cX7_isOmen 6 = .ok (.if_icmp .ge 7, 3) := by decide +kernel
theorem dX7_isOmen_9 : decode cX7_isOmen 9 = .ok (.iconst 1, 1) := by decide +kernel
theorem dX7_isOmen_10 : decode cX7_isOmen 10 = .ok (.goto 4, 3) := by decide +kernel
theorem dX7_isOmen_13 : decode cX7_isOmen 13 = .ok (.iconst 0, 1) := by decide +kernel
theorem dX7_isOmen_14 : decode cX7_isOmen 14 = .ok (.ireturn, 1) := by decide +kernel
theorem dX7_isMinute_0 : decode cX7_isMinute 0 = .ok (.iload_n 0, 1) := by decide +kernel
theorem dX7_isMinute_1 : decode cX7_isMinute 1 = .ok (.ifCond .lt 13, 3) := by decide +kernel
theorem dX7_isMinute_4 : decode cX7_isMinute 4 = .ok (.iload_n 0, 1) := by decide +kernel
theorem dX7_isMinute_5 : decode cX7_isMinute 5 = .ok (.bipush 120, 2) := by decide +kernel
theorem dX7_isMinute_7 : decode cX7_isMinute 7 = .ok (.if_icmp .ge 7, 3) := by decide +kernel
theorem dX7_isMinute_10 : decode cX7_isMinute 10 = .ok (.iconst 1, 1) := by decide +kernel
theorem dX7_isMinute_11 : decode cX7_isMinute 11 = .ok (.goto 4, 3) := by decide +kernel
theorem dX7_isMinute_14 : decode cX7_isMinute 14 = .ok (.iconst 0, 1) := by decide +kernel
theorem dX7_isMinute_15 : decode cX7_isMinute 15 = .ok (.ireturn, 1) := by decide +kernel
theorem dX7_isSheet_0 : decode cX7_isSheet 0 = .ok (.iload_n 0, 1) := by decide +kernel
theorem dX7_isSheet_1 : decode cX7_isSheet 1 = .ok (.ifCond .lt 12, 3) := by decide +kernel
theorem dX7_isSheet_4 : decode cX7_isSheet 4 = .ok (.iload_n 0, 1) := by decide +kernel
theorem dX7_isSheet_5 : decode cX7_isSheet 5 = .ok (.iconst 4, 1) := by decide +kernel
theorem dX7_isSheet_6 : decode cX7_isSheet 6 = .ok (.if_icmp .ge 7, 3) := by decide +kernel
theorem dX7_isSheet_9 : decode cX7_isSheet 9 = .ok (.iconst 1, 1) := by decide +kernel
theorem dX7_isSheet_10 : decode cX7_isSheet 10 = .ok (.goto 4, 3) := by decide +kernel
theorem dX7_isSheet_13 : decode cX7_isSheet 13 = .ok (.iconst 0, 1) := by decide +kernel
theorem dX7_isSheet_14 : decode cX7_isSheet 14 = .ok (.ireturn, 1) := by decide +kernel
theorem dX7_isLane_0 : decode cX7_isLane 0 = .ok (.iload_n 0, 1) := by decide +kernel
theorem dX7_isLane_1 : decode cX7_isLane 1 = .ok (.ifCond .lt 12, 3) := by decide +kernel
theorem dX7_isLane_4 : decode cX7_isLane 4 = .ok (.iload_n 0, 1) := by decide +kernel
theorem dX7_isLane_5 : decode cX7_isLane 5 = .ok (.iconst 3, 1) := by decide +kernel
theorem dX7_isLane_6 : decode cX7_isLane 6 = .ok (.if_icmp .ge 7, 3) := by decide +kernel
theorem dX7_isLane_9 : decode cX7_isLane 9 = .ok (.iconst 1, 1) := by decide +kernel
theorem dX7_isLane_10 : decode cX7_isLane 10 = .ok (.goto 4, 3) := by decide +kernel
theorem dX7_isLane_13 : decode cX7_isLane 13 = .ok (.iconst 0, 1) := by decide +kernel
theorem dX7_isLane_14 : decode cX7_isLane 14 = .ok (.ireturn, 1) := by decide +kernel
theorem dX7_minutesFor_0 : decode cX7_minutesFor 0 = .ok (.getstatic 311, 3) := by decide +kernel
theorem dX7_minutesFor_3 : decode cX7_minutesFor 3 = .ok (.iload_n 0, 1) := by decide +kernel
theorem dX7_minutesFor_4 : decode cX7_minutesFor 4 = .ok (.iconst 5, 1) := by decide +kernel
theorem dX7_minutesFor_5 : decode cX7_minutesFor 5 = .ok (.imul, 1) := by decide +kernel
theorem dX7_minutesFor_6 : decode cX7_minutesFor 6 = .ok (.iload_n 1, 1) := by decide +kernel
theorem dX7_minutesFor_7 : decode cX7_minutesFor 7 = .ok (.iadd, 1) := by decide +kernel
theorem dX7_minutesFor_8 : decode cX7_minutesFor 8 = .ok (.iaload, 1) := by decide +kernel
theorem dX7_minutesFor_9 : decode cX7_minutesFor 9 = .ok (.ireturn, 1) := by decide +kernel
theorem dX7_sizeOrSet_0 : decode cX7_sizeOrSet 0 = .ok (.iload_n 0, 1) := by decide +kernel
theorem dX7_sizeOrSet_1 : decode cX7_sizeOrSet 1 = .ok (.bipush (-4), 2) := by decide +kernel
theorem dX7_sizeOrSet_3 : decode cX7_sizeOrSet 3 = .ok (.if_icmp .ne 6, 3) := by decide +kernel
theorem dX7_sizeOrSet_6 : decode cX7_sizeOrSet 6 = .ok (.bipush (-4), 2) := by decide +kernel
theorem dX7_sizeOrSet_8 : decode cX7_sizeOrSet 8 = .ok (.ireturn, 1) := by decide +kernel
theorem dX7_sizeOrSet_9 : decode cX7_sizeOrSet 9 = .ok (.iload_n 1, 1) := by decide +kernel
theorem dX7_sizeOrSet_10 : decode cX7_sizeOrSet 10 = .ok (.ifCond .ne 10, 3) := by decide +kernel
theorem dX7_sizeOrSet_13 : decode cX7_sizeOrSet 13 = .ok (.iload_n 0, 1) := by decide +kernel
theorem dX7_sizeOrSet_14 : decode cX7_sizeOrSet 14 = .ok (.invokestatic 223, 3) := by decide +kernel
theorem dX7_sizeOrSet_17 : decode cX7_sizeOrSet 17 = .ok (.goto 4, 3) := by decide +kernel
theorem dX7_sizeOrSet_20 : decode cX7_sizeOrSet 20 = .ok (.iload_n 0, 1) := by decide +kernel
theorem dX7_sizeOrSet_21 : decode cX7_sizeOrSet 21 = .ok (.ireturn, 1) := by decide +kernel
theorem dX7_startIn_0 : decode cX7_startIn 0 = .ok (.iload_n 0, 1) := by decide +kernel
theorem dX7_startIn_1 : decode cX7_startIn 1 = .ok (.iconst 2, 1) := by decide +kernel
theorem dX7_startIn_2 : decode cX7_startIn 2 = .ok (.iload_n 2, 1) := by decide +kernel
theorem dX7_startIn_3 : decode cX7_startIn 3 = .ok (.iconst 1, 1) := by decide +kernel
theorem dX7_startIn_4 : decode cX7_startIn 4 = .ok (.isub, 1) := by decide +kernel
theorem dX7_startIn_5 : decode cX7_startIn 5 = .ok (.iload_n 1, 1) := by decide +kernel
theorem dX7_startIn_6 : decode cX7_startIn 6 = .ok (.isub, 1) := by decide +kernel
theorem dX7_startIn_7 : decode cX7_startIn 7 = .ok (.imul, 1) := by decide +kernel
theorem dX7_startIn_8 : decode cX7_startIn 8 = .ok (.ishr, 1) := by decide +kernel
theorem dX7_startIn_9 : decode cX7_startIn 9 = .ok (.iconst 3, 1) := by decide +kernel
theorem dX7_startIn_10 : decode cX7_startIn 10 = .ok (.iand, 1) := by decide +kernel
theorem dX7_startIn_11 : decode cX7_startIn 11 = .ok (.ireturn, 1) := by decide +kernel
theorem dX7_nextSeed_0 : decode cX7_nextSeed 0 = .ok (.iload_n 0, 1) := by decide +kernel
theorem dX7_nextSeed_1 : decode cX7_nextSeed 1 = .ok (.ldc_w 314, 3) := by decide +kernel
theorem dX7_nextSeed_4 : decode cX7_nextSeed 4 = .ok (.imul, 1) := by decide +kernel
theorem dX7_nextSeed_5 : decode cX7_nextSeed 5 = .ok (.sipush 12345, 3) := by decide +kernel
theorem dX7_nextSeed_8 : decode cX7_nextSeed 8 = .ok (.iadd, 1) := by decide +kernel
theorem dX7_nextSeed_9 : decode cX7_nextSeed 9 = .ok (.ireturn, 1) := by decide +kernel
theorem dX7_drawn_0 : decode cX7_drawn 0 = .ok (.iload_n 1, 1) := by decide +kernel
theorem dX7_drawn_1 : decode cX7_drawn 1 = .ok (.ifCond .le 16, 3) := by decide +kernel
theorem dX7_drawn_4 : decode cX7_drawn 4 = .ok (.iload_n 0, 1) := by decide +kernel
theorem dX7_drawn_5 : decode cX7_drawn 5 = .ok (.bipush 16, 2) := by decide +kernel
theorem dX7_drawn_7 : decode cX7_drawn 7 = .ok (.iushr, 1) := by decide +kernel
theorem dX7_drawn_8 : decode cX7_drawn 8 = .ok (.sipush 32767, 3) := by decide +kernel
theorem dX7_drawn_11 : decode cX7_drawn 11 = .ok (.iand, 1) := by decide +kernel
theorem dX7_drawn_12 : decode cX7_drawn 12 = .ok (.iload_n 1, 1) := by decide +kernel
theorem dX7_drawn_13 : decode cX7_drawn 13 = .ok (.irem, 1) := by decide +kernel
theorem dX7_drawn_14 : decode cX7_drawn 14 = .ok (.goto 4, 3) := by decide +kernel
theorem dX7_drawn_17 : decode cX7_drawn 17 = .ok (.iconst 0, 1) := by decide +kernel
theorem dX7_drawn_18 : decode cX7_drawn 18 = .ok (.ireturn, 1) := by decide +kernel
theorem dX7_partOfFraction_0 : decode cX7_partOfFraction 0 = .ok (.lload_n 0, 1) := by decide +kernel
theorem dX7_partOfFraction_1 : decode cX7_partOfFraction 1 = .ok (.lload_n 2, 1) := by decide +kernel
theorem dX7_partOfFraction_2 : decode cX7_partOfFraction 2 = .ok (.invokestatic 315, 3) := by decide +kernel
theorem dX7_partOfFraction_5 : decode cX7_partOfFraction 5 = .ok (.lstore 5, 2) := by decide +kernel
theorem dX7_partOfFraction_7 : decode cX7_partOfFraction 7 = .ok (.lload 5, 2) := by decide +kernel
theorem dX7_partOfFraction_9 : decode cX7_partOfFraction 9 = .ok (.lconst 0, 1) := by decide +kernel
theorem dX7_partOfFraction_10 : decode cX7_partOfFraction 10 = .ok (.lcmp, 1) := by decide +kernel
theorem dX7_partOfFraction_11 : decode cX7_partOfFraction 11 = .ok (.ifCond .gt 7, 3) := by decide +kernel
theorem dX7_partOfFraction_14 : decode cX7_partOfFraction 14 = .ok (.iload 4, 2) := by decide +kernel
theorem dX7_partOfFraction_16 : decode cX7_partOfFraction 16 = .ok (.i2l, 1) := by decide +kernel
theorem dX7_partOfFraction_17 : decode cX7_partOfFraction 17 = .ok (.lreturn, 1) := by decide +kernel
theorem dX7_partOfFraction_18 : decode cX7_partOfFraction 18 = .ok (.iload 4, 2) := by decide +kernel
theorem dX7_partOfFraction_20 : decode cX7_partOfFraction 20 = .ok (.ifCond .ne 10, 3) := by decide +kernel
theorem dX7_partOfFraction_23 : decode cX7_partOfFraction 23 = .ok (.lload_n 0, 1) := by decide +kernel
theorem dX7_partOfFraction_24 : decode cX7_partOfFraction 24 = .ok (.lload 5, 2) := by decide +kernel
theorem dX7_partOfFraction_26 : decode cX7_partOfFraction 26 = .ok (.ldiv, 1) := by decide +kernel
theorem dX7_partOfFraction_27 : decode cX7_partOfFraction 27 = .ok (.goto 7, 3) := by decide +kernel
theorem dX7_partOfFraction_30 : decode cX7_partOfFraction 30 = .ok (.lload_n 2, 1) := by decide +kernel
theorem dX7_partOfFraction_31 : decode cX7_partOfFraction 31 = .ok (.lload 5, 2) := by decide +kernel
theorem dX7_partOfFraction_33 : decode cX7_partOfFraction 33 = .ok (.ldiv, 1) := by decide +kernel
theorem dX7_partOfFraction_34 : decode cX7_partOfFraction 34 = .ok (.lreturn, 1) := by decide +kernel
theorem dX7_commonDivisor_0 : decode cX7_commonDivisor 0 = .ok (.lload_n 0, 1) := by decide +kernel
theorem dX7_commonDivisor_1 : decode cX7_commonDivisor 1 = .ok (.lstore 4, 2) := by decide +kernel
theorem dX7_commonDivisor_3 : decode cX7_commonDivisor 3 = .ok (.lload_n 2, 1) := by decide +kernel
theorem dX7_commonDivisor_4 : decode cX7_commonDivisor 4 = .ok (.lstore 6, 2) := by decide +kernel
theorem dX7_commonDivisor_6 : decode cX7_commonDivisor 6 = .ok (.iconst 0, 1) := by decide +kernel
theorem dX7_commonDivisor_7 : decode cX7_commonDivisor 7 = .ok (.istore 8, 2) := by decide +kernel
theorem dX7_commonDivisor_9 : decode cX7_commonDivisor 9 = .ok (.iload 8, 2) := by decide +kernel
theorem dX7_commonDivisor_11 : decode cX7_commonDivisor 11 = .ok (.sipush 200, 3) := by decide +kernel
theorem dX7_commonDivisor_14 : decode cX7_commonDivisor 14 = .ok (.if_icmp .ge 31, 3) := by decide +kernel
theorem dX7_commonDivisor_17 : decode cX7_commonDivisor 17 = .ok (.lload 6, 2) := by decide +kernel
theorem dX7_commonDivisor_19 : decode cX7_commonDivisor 19 = .ok (.lconst 0, 1) := by decide +kernel
theorem dX7_commonDivisor_20 : decode cX7_commonDivisor 20 = .ok (.lcmp, 1) := by decide +kernel
theorem dX7_commonDivisor_21 : decode cX7_commonDivisor 21 = .ok (.ifCond .eq 24, 3) := by decide +kernel
theorem dX7_commonDivisor_24 : decode cX7_commonDivisor 24 = .ok (.lload 4, 2) := by decide +kernel
theorem dX7_commonDivisor_26 : decode cX7_commonDivisor 26 = .ok (.lload 6, 2) := by decide +kernel
theorem dX7_commonDivisor_28 : decode cX7_commonDivisor 28 = .ok (.lrem, 1) := by decide +kernel
theorem dX7_commonDivisor_29 : decode cX7_commonDivisor 29 = .ok (.lstore 9, 2) := by decide +kernel
theorem dX7_commonDivisor_31 : decode cX7_commonDivisor 31 = .ok (.lload 6, 2) := by decide +kernel
theorem dX7_commonDivisor_33 : decode cX7_commonDivisor 33 = .ok (.lstore 4, 2) := by decide +kernel
theorem dX7_commonDivisor_35 : decode cX7_commonDivisor 35 = .ok (.lload 9, 2) := by decide +kernel
theorem dX7_commonDivisor_37 : decode cX7_commonDivisor 37 = .ok (.lstore 6, 2) := by decide +kernel
theorem dX7_commonDivisor_39 : decode cX7_commonDivisor 39 = .ok (.iinc 8 1, 3) := by decide +kernel
theorem dX7_commonDivisor_42 : decode cX7_commonDivisor 42 = .ok (.goto (-33), 3) := by decide +kernel
theorem dX7_commonDivisor_45 : decode cX7_commonDivisor 45 = .ok (.lload 4, 2) := by decide +kernel
theorem dX7_commonDivisor_47 : decode cX7_commonDivisor 47 = .ok (.lreturn, 1) := by decide +kernel
theorem dX8_init_0 : decode cX8_init 0 = .ok (.aload_n 0, 1) := by decide +kernel
theorem dX8_init_1 : decode cX8_init 1 = .ok (.invokespecial 1, 3) := by decide +kernel
theorem dX8_init_4 : decode cX8_init 4 = .ok (.aload_n 0, 1) := by decide +kernel
theorem dX8_init_5 : decode cX8_init 5 = .ok (.bipush 125, 2) := by decide +kernel
theorem dX8_init_7 : decode cX8_init 7 = .ok (.newarray .int, 2) := by decide +kernel
theorem dX8_init_9 : decode cX8_init 9 = .ok (.putfield 7, 3) := by decide +kernel
theorem dX8_init_12 : decode cX8_init 12 = .ok (.aload_n 0, 1) := by decide +kernel
theorem dX8_init_13 : decode cX8_init 13 = .ok (.iconst 4, 1) := by decide +kernel
theorem dX8_init_14 : decode cX8_init 14 = .ok (.putfield 13, 3) := by decide +kernel
theorem dX8_init_17 : decode cX8_init 17 = .ok (.aload_n 0, 1) := by decide +kernel
theorem dX8_init_18 : decode cX8_init 18 = .ok (.bipush 8, 2) := by decide +kernel
theorem dX8_init_20 : decode cX8_init 20 = .ok (.newarray .int, 2) := by decide +kernel
theorem dX8_init_22 : decode cX8_init 22 = .ok (.putfield 17, 3) := by decide +kernel
theorem dX8_init_25 : decode cX8_init 25 = .ok (.aload_n 0, 1) := by decide +kernel
theorem dX8_init_26 : decode cX8_init 26 = .ok (.bipush 20, 2) := by decide +kernel
