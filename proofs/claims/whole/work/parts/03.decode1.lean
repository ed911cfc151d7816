theorem dX0_init_0 : decode cX0_init 0 = .ok (.aload_n 0, 1) := by decide +kernel
theorem dX0_init_1 : decode cX0_init 1 = .ok (.invokespecial 3, 3) := by decide +kernel
theorem dX0_init_4 : decode cX0_init 4 = .ok (.aload_n 0, 1) := by decide +kernel
theorem dX0_init_5 : decode cX0_init 5 = .ok (.iconst 4, 1) := by decide +kernel
theorem dX0_init_6 : decode cX0_init 6 = .ok (.putfield 9, 3) := by decide +kernel
theorem dX0_init_9 : decode cX0_init 9 = .ok (.aload_n 0, 1) := by decide +kernel
theorem dX0_init_10 : decode cX0_init 10 = .ok (.bipush 8, 2) := by decide +kernel
theorem dX0_init_12 : decode cX0_init 12 = .ok (.newarray .int, 2) := by decide +kernel
theorem dX0_init_14 : decode cX0_init 14 = .ok (.putfield 15, 3) := by decide +kernel
theorem dX0_init_17 : decode cX0_init 17 = .ok (.aload_n 0, 1) := by decide +kernel
theorem dX0_init_18 : decode cX0_init 18 = .ok (.bipush 8, 2) := by decide +kernel
theorem dX0_init_20 : decode cX0_init 20 = .ok (.newarray .int, 2) := by decide +kernel
theorem dX0_init_22 : decode cX0_init 22 = .ok (.putfield 19, 3) := by decide +kernel
theorem dX0_init_25 : decode cX0_init 25 = .ok (.aload_n 0, 1) := by decide +kernel
theorem dX0_init_26 : decode cX0_init 26 = .ok (.bipush 16, 2) := by decide +kernel
theorem dX0_init_28 : decode cX0_init 28 = .ok (.newarray .int, 2) := by decide +kernel
theorem dX0_init_30 : decode cX0_init 30 = .ok (.putfield 22, 3) := by decide +kernel
theorem dX0_init_33 : decode cX0_init 33 = .ok (.return_, 1) := by decide +kernel
theorem dX0_clear_0 : decode cX0_clear 0 = .ok (.aload_n 0, 1) := by decide +kernel
theorem dX0_clear_1 : decode cX0_clear 1 = .ok (.iconst 4, 1) := by decide +kernel
theorem dX0_clear_2 : decode cX0_clear 2 = .ok (.putfield 9, 3) := by decide +kernel
theorem dX0_clear_5 : decode cX0_clear 5 = .ok (.aload_n 0, 1) := by decide +kernel
theorem dX0_clear_6 : decode cX0_clear 6 = .ok (.iconst 0, 1) := by decide +kernel
theorem dX0_clear_7 : decode cX0_clear 7 = .ok (.putfield 25, 3) := by decide +kernel
theorem dX0_clear_10 : decode cX0_clear 10 = .ok (.aload_n 0, 1) := by decide +kernel
theorem dX0_clear_11 : decode cX0_clear 11 = .ok (.iconst 0, 1) := by decide +kernel
theorem dX0_clear_12 : decode cX0_clear 12 = .ok (.putfield 28, 3) := by decide +kernel
theorem dX0_clear_15 : decode cX0_clear 15 = .ok (.aload_n 0, 1) := by decide +kernel
theorem dX0_clear_16 : decode cX0_clear 16 = .ok (.iconst 0, 1) := by decide +kernel
theorem dX0_clear_17 : decode cX0_clear 17 = .ok (.putfield 31, 3) := by decide +kernel
theorem dX0_clear_20 : decode cX0_clear 20 = .ok (.aload_n 0, 1) := by decide +kernel
theorem dX0_clear_21 : decode cX0_clear 21 = .ok (.getfield 15, 3) := by decide +kernel
theorem dX0_clear_24 : decode cX0_clear 24 = .ok (.iconst 0, 1) := by decide +kernel
theorem dX0_clear_25 : decode cX0_clear 25 = .ok (.invokestatic 34, 3) := by decide +kernel
theorem dX0_clear_28 : decode cX0_clear 28 = .ok (.return_, 1) := by decide +kernel
theorem dX0_copyFrom_0 : decode cX0_copyFrom 0 = .ok (.aload_n 0, 1) := by decide +kernel
theorem dX0_copyFrom_1 : decode cX0_copyFrom 1 = .ok (.aload_n 1, 1) := by decide +kernel
theorem dX0_copyFrom_2 : decode cX0_copyFrom 2 = .ok (.getfield 9, 3) := by decide +kernel
theorem dX0_copyFrom_5 : decode cX0_copyFrom 5 = .ok (.putfield 9, 3) := by decide +kernel
theorem dX0_copyFrom_8 : decode cX0_copyFrom 8 = .ok (.aload_n 0, 1) := by decide +kernel
theorem dX0_copyFrom_9 : decode cX0_copyFrom 9 = .ok (.aload_n 1, 1) := by decide +kernel
theorem dX0_copyFrom_10 : decode cX0_copyFrom 10 = .ok (.getfield 25, 3) := by decide +kernel
theorem dX0_copyFrom_13 : decode cX0_copyFrom 13 = .ok (.putfield 25, 3) := by decide +kernel
theorem dX0_copyFrom_16 : decode cX0_copyFrom 16 = .ok (.aload_n 0, 1) := by decide +kernel
theorem dX0_copyFrom_17 : decode cX0_copyFrom 17 = .ok (.aload_n 1, 1) := by decide +kernel
theorem dX0_copyFrom_18 : decode cX0_copyFrom 18 = .ok (.getfield 28, 3) := by decide +kernel
theorem dX0_copyFrom_21 : decode cX0_copyFrom 21 = .ok (.putfield 28, 3) := by decide +kernel
theorem dX0_copyFrom_24 : decode cX0_copyFrom 24 = .ok (.aload_n 0, 1) := by decide +kernel
theorem dX0_copyFrom_25 : decode cX0_copyFrom 25 = .ok (.aload_n 1, 1) := by decide +kernel
theorem dX0_copyFrom_26 : decode cX0_copyFrom 26 = .ok (.getfield 31, 3) := by decide +kernel
theorem dX0_copyFrom_29 : decode cX0_copyFrom 29 = .ok (.putfield 31, 3) := by decide +kernel
theorem dX0_copyFrom_32 : decode cX0_copyFrom 32 = .ok (.aload_n 1, 1) := by decide +kernel
theorem dX0_copyFrom_33 : decode cX0_copyFrom 33 = .ok (.getfield 15, 3) := by decide +kernel
theorem dX0_copyFrom_36 : decode cX0_copyFrom 36 = .ok (.iconst 0, 1) := by decide +kernel
theorem dX0_copyFrom_37 : decode cX0_copyFrom 37 = .ok (.aload_n 0, 1) := by decide +kernel
theorem dX0_copyFrom_38 : decode cX0_copyFrom 38 = .ok (.getfield 15, 3) := by decide +kernel
theorem dX0_copyFrom_41 : decode cX0_copyFrom 41 = .ok (.iconst 0, 1) := by decide +kernel
theorem dX0_copyFrom_42 : decode cX0_copyFrom 42 = .ok (.bipush 8, 2) := by decide +kernel
theorem dX0_copyFrom_44 : decode cX0_copyFrom 44 = .ok (.invokestatic 40, 3) := by decide +kernel
theorem dX0_copyFrom_47 : decode cX0_copyFrom 47 = .ok (.aload_n 1, 1) := by decide +kernel
theorem dX0_copyFrom_48 : decode cX0_copyFrom 48 = .ok (.getfield 19, 3) := by decide +kernel
theorem dX0_copyFrom_51 : decode cX0_copyFrom 51 = .ok (.iconst 0, 1) := by decide +kernel
theorem dX0_copyFrom_52 : decode cX0_copyFrom 52 = .ok (.aload_n 0, 1) := by decide +kernel
theorem dX0_copyFrom_53 : decode cX0_copyFrom 53 = .ok (.getfield 19, 3) := by decide +kernel
theorem dX0_copyFrom_56 : decode cX0_copyFrom 56 = .ok (.iconst 0, 1) := by decide +kernel
theorem dX0_copyFrom_57 : decode cX0_copyFrom 57 = .ok (.bipush 8, 2) := by decide +kernel
theorem dX0_copyFrom_59 : decode cX0_copyFrom 59 = .ok (.invokestatic 40, 3) := by decide +kernel
theorem dX0_copyFrom_62 : decode cX0_copyFrom 62 = .ok (.aload_n 1, 1) := by decide +kernel
theorem dX0_copyFrom_63 : decode cX0_copyFrom 63 = .ok (.getfield 22, 3) := by decide +kernel
theorem dX0_copyFrom_66 : decode cX0_copyFrom 66 = .ok (.iconst 0, 1) := by decide +kernel
theorem dX0_copyFrom_67 : decode cX0_copyFrom 67 = .ok (.aload_n 0, 1) := by decide +kernel
theorem dX0_copyFrom_68 : decode cX0_copyFrom 68 = .ok (.getfield 22, 3) := by decide +kernel
theorem dX0_copyFrom_71 : decode cX0_copyFrom 71 = .ok (.iconst 0, 1) := by decide +kernel
theorem dX0_copyFrom_72 : decode cX0_copyFrom 72 = .ok (.bipush 16, 2) := by decide +kernel
theorem dX0_copyFrom_74 : decode cX0_copyFrom 74 = .ok (.invokestatic 40, 3) := by decide +kernel
theorem dX0_copyFrom_77 : decode cX0_copyFrom 77 = .ok (.return_, 1) := by decide +kernel
theorem dX0_isBlock_0 : decode cX0_isBlock 0 = .ok (.iload_n 1, 1) := by decide +kernel
theorem dX0_isBlock_1 : decode cX0_isBlock 1 = .ok (.ifCond .lt 15, 3) := by decide +kernel
theorem dX0_isBlock_4 : decode cX0_isBlock 4 = .ok (.iload_n 1, 1) := by decide +kernel
theorem dX0_isBlock_5 : decode cX0_isBlock 5 = .ok (.aload_n 0, 1) := by decide +kernel
theorem dX0_isBlock_6 : decode cX0_isBlock 6 = .ok (.getfield 9, 3) := by decide +kernel
theorem dX0_isBlock_9 : decode cX0_isBlock 9 = .ok (.if_icmp .ge 7, 3) := by decide +kernel
theorem dX0_isBlock_12 : decode cX0_isBlock 12 = .ok (.iconst 1, 1) := by decide +kernel
theorem dX0_isBlock_13 : decode cX0_isBlock 13 = .ok (.goto 4, 3) := by decide +kernel
theorem dX0_isBlock_16 : decode cX0_isBlock 16 = .ok (.iconst 0, 1) := by decide +kernel
theorem dX0_isBlock_17 : decode cX0_isBlock 17 = .ok (.ireturn, 1) := by decide +kernel
theorem dX0_isTrain_0 : decode cX0_isTrain 0 = .ok (.iload_n 1, 1) := by decide +kernel
theorem dX0_isTrain_1 : decode cX0_isTrain 1 = .ok (.ifCond .lt 15, 3) := by decide +kernel
theorem dX0_isTrain_4 : decode cX0_isTrain 4 = .ok (.iload_n 1, 1) := by decide +kernel
theorem dX0_isTrain_5 : decode cX0_isTrain 5 = .ok (.aload_n 0, 1) := by decide +kernel
theorem dX0_isTrain_6 : decode cX0_isTrain 6 = .ok (.getfield 31, 3) := by decide +kernel
theorem dX0_isTrain_9 : decode cX0_isTrain 9 = .ok (.if_icmp .ge 7, 3) := by decide +kernel
theorem dX0_isTrain_12 : decode cX0_isTrain 12 = .ok (.iconst 1, 1) := by decide +kernel
theorem dX0_isTrain_13 : decode cX0_isTrain 13 = .ok (.goto 4, 3) := by decide +kernel
theorem dX0_isTrain_16 : decode cX0_isTrain 16 = .ok (.iconst 0, 1) := by decide +kernel
theorem dX0_isTrain_17 : decode cX0_isTrain 17 = .ok (.ireturn, 1) := by decide +kernel
theorem dX0_isGuarded_0 : decode cX0_isGuarded 0 = .ok (.aload_n 0, 1) := by decide +kernel
theorem dX0_isGuarded_1 : decode cX0_isGuarded 1 = .ok (.getfield 25, 3) := by decide +kernel
theorem dX0_isGuarded_4 : decode cX0_isGuarded 4 = .ok (.iload_n 1, 1) := by decide +kernel
theorem dX0_isGuarded_5 : decode cX0_isGuarded 5 = .ok (.ishr, 1) := by decide +kernel
theorem dX0_isGuarded_6 : decode cX0_isGuarded 6 = .ok (.iconst 1, 1) := by decide +kernel
theorem dX0_isGuarded_7 : decode cX0_isGuarded 7 = .ok (.iand, 1) := by decide +kernel
theorem dX0_isGuarded_8 : decode cX0_isGuarded 8 = .ok (.ifCond .eq 7, 3) := by decide +kernel
theorem dX0_isGuarded_11 : decode cX0_isGuarded 11 = .ok (.iconst 1, 1) := by decide +kernel
theorem dX0_isGuarded_12 : decode cX0_isGuarded 12 = .ok (.goto 4, 3) := by decide +kernel
theorem dX0_isGuarded_15 : decode cX0_isGuarded 15 = .ok (.iconst 0, 1) := by decide +kernel
theorem dX0_isGuarded_16 : decode cX0_isGuarded 16 = .ok (.ireturn, 1) := by decide +kernel
theorem dX0_fact_0 : decode cX0_fact 0 = .ok (.aload_n 0, 1) := by decide +kernel
theorem dX0_fact_1 : decode cX0_fact 1 = .ok (.getfield 22, 3) := by decide +kernel
theorem dX0_fact_4 : decode cX0_fact 4 = .ok (.iconst 4, 1) := by decide +kernel
theorem dX0_fact_5 : decode cX0_fact 5 = .ok (.iload_n 1, 1) := by decide +kernel
theorem dX0_fact_6 : decode cX0_fact 6 = .ok (.imul, 1) := by decide +kernel
theorem dX0_fact_7 : decode cX0_fact 7 = .ok (.iload_n 2, 1) := by decide +kernel
theorem dX0_fact_8 : decode cX0_fact 8 = .ok (.iadd, 1) := by decide +kernel
theorem dX0_fact_9 : decode cX0_fact 9 = .ok (.iaload, 1) := by decide +kernel
theorem dX0_fact_10 : decode cX0_fact 10 = .ok (.ireturn, 1) := by decide +kernel
theorem dX0_putFact_0 : decode cX0_putFact 0 = .ok (.aload_n 0, 1) := by decide +kernel
theorem dX0_putFact_1 : decode cX0_putFact 1 = .ok (.getfield 22, 3) := by decide +kernel
theorem dX0_putFact_4 : decode cX0_putFact 4 = .ok (.iconst 4, 1) := by decide +kernel
theorem dX0_putFact_5 : decode cX0_putFact 5 = .ok (.iload_n 1, 1) := by decide +kernel
theorem dX0_putFact_6 : decode cX0_putFact 6 = .ok (.imul, 1) := by decide +kernel
theorem dX0_putFact_7 : decode cX0_putFact 7 = .ok (.iload_n 2, 1) := by decide +kernel
theorem dX0_putFact_8 : decode cX0_putFact 8 = .ok (.iadd, 1) := by decide +kernel
theorem dX0_putFact_9 : decode cX0_putFact 9 = .ok (.iload_n 3, 1) := by decide +kernel
theorem dX0_putFact_10 : decode cX0_putFact 10 = .ok (.iastore, 1) := by decide +kernel
theorem dX0_putFact_11 : decode cX0_putFact 11 = .ok (.return_, 1) := by decide +kernel
theorem dX0_omenBits_0 : decode cX0_omenBits 0 = .ok (.iconst 0, 1) := by decide +kernel
theorem dX0_omenBits_1 : decode cX0_omenBits 1 = .ok (.istore_n 1, 1) := by decide +kernel
theorem dX0_omenBits_2 : decode cX0_omenBits 2 = .ok (.iconst 0, 1) := by decide +kernel
theorem dX0_omenBits_3 : decode cX0_omenBits 3 = .ok (.istore_n 2, 1) := by decide +kernel
theorem dX0_omenBits_4 : decode cX0_omenBits 4 = .ok (.iload_n 2, 1) := by decide +kernel
theorem dX0_omenBits_5 : decode cX0_omenBits 5 = .ok (.bipush 8, 2) := by decide +kernel
theorem dX0_omenBits_7 : decode cX0_omenBits 7 = .ok (.if_icmp .ge 24, 3) := by decide +kernel
theorem dX0_omenBits_10 : decode cX0_omenBits 10 = .ok (.aload_n 0, 1) := by decide +kernel
theorem dX0_omenBits_11 : decode cX0_omenBits 11 = .ok (.getfield 15, 3) := by decide +kernel
theorem dX0_omenBits_14 : decode cX0_omenBits 14 = .ok (.iload_n 2, 1) := by decide +kernel
theorem dX0_omenBits_15 : decode cX0_omenBits 15 = .ok (.iaload, 1) := by decide +kernel
theorem dX0_omenBits_16 : decode cX0_omenBits 16 = .ok (.ifCond .eq 9, 3) := by decide +kernel
theorem dX0_omenBits_19 : decode cX0_omenBits 19 = .ok (.iload_n 1, 1) := by decide +kernel
theorem dX0_omenBits_20 : decode cX0_omenBits 20 = .ok (.iconst 1, 1) := by decide +kernel
theorem dX0_omenBits_21 : decode cX0_omenBits 21 = .ok (.iload_n 2, 1) := by decide +kernel
theorem dX0_omenBits_22 : decode cX0_omenBits 22 = .ok (.ishl, 1) := by decide +kernel
theorem dX0_omenBits_23 : decode cX0_omenBits 23 = .ok (.ior, 1) := by decide +kernel
theorem dX0_omenBits_24 : decode cX0_omenBits 24 = .ok (.istore_n 1, 1) := by decide +kernel
theorem dX0_omenBits_25 : decode cX0_omenBits 25 = .ok (.iinc 2 1, 3) := by decide +kernel
theorem dX0_omenBits_28 : decode cX0_omenBits 28 = .ok (.goto (-24), 3) := by decide +kernel
theorem dX0_omenBits_31 : decode cX0_omenBits 31 = .ok (.iload_n 1, 1) := by decide +kernel
theorem dX0_omenBits_32 : decode cX0_omenBits 32 = .ok (.ireturn, 1) := by decide +kernel
theorem dX0_lockBits_0 : decode cX0_lockBits 0 = .ok (.iconst 0, 1) := by decide +kernel
theorem dX0_lockBits_1 : decode cX0_lockBits 1 = .ok (.istore_n 1, 1) := by decide +kernel
theorem dX0_lockBits_2 : decode cX0_lockBits 2 = .ok (.iconst 0, 1) := by decide +kernel
theorem dX0_lockBits_3 : decode cX0_lockBits 3 = .ok (.istore_n 2, 1) := by decide +kernel
theorem dX0_lockBits_4 : decode cX0_lockBits 4 = .ok (.iload_n 2, 1) := by decide +kernel
theorem dX0_lockBits_5 : decode cX0_lockBits 5 = .ok (.iconst 2, 1) := by decide +kernel
theorem dX0_lockBits_6 : decode cX0_lockBits 6 = .ok (.aload_n 0, 1) := by decide +kernel
theorem dX0_lockBits_7 : decode cX0_lockBits 7 = .ok (.getfield 28, 3) := by decide +kernel
theorem dX0_lockBits_10 : decode cX0_lockBits 10 = .ok (.imul, 1) := by decide +kernel
theorem dX0_lockBits_11 : decode cX0_lockBits 11 = .ok (.if_icmp .ge 20, 3) := by decide +kernel
theorem dX0_lockBits_14 : decode cX0_lockBits 14 = .ok (.iload_n 1, 1) := by decide +kernel
theorem dX0_lockBits_15 : decode cX0_lockBits 15 = .ok (.iconst 1, 1) := by decide +kernel
theorem dX0_lockBits_16 : decode cX0_lockBits 16 = .ok (.aload_n 0, 1) := by decide +kernel
theorem dX0_lockBits_17 : decode cX0_lockBits 17 = .ok (.getfield 19, 3) := by decide +kernel
theorem dX0_lockBits_20 : decode cX0_lockBits 20 = .ok (.iload_n 2, 1) := by decide +kernel
theorem dX0_lockBits_21 : decode cX0_lockBits 21 = .ok (.iaload, 1) := by decide +kernel
theorem dX0_lockBits_22 : decode cX0_lockBits 22 = .ok (.ishl, 1) := by decide +kernel
theorem dX0_lockBits_23 : decode cX0_lockBits 23 = .ok (.ior, 1) := by decide +kernel
theorem dX0_lockBits_24 : decode cX0_lockBits 24 = .ok (.istore_n 1, 1) := by decide +kernel
theorem dX0_lockBits_25 : decode cX0_lockBits 25 = .ok (.iinc 2 1, 3) := by decide +kernel
theorem dX0_lockBits_28 : decode cX0_lockBits 28 = .ok (.goto (-24), 3) := by decide +kernel
theorem dX0_lockBits_31 : decode cX0_lockBits 31 = .ok (.iload_n 1, 1) := by decide +kernel
theorem dX0_lockBits_32 : decode cX0_lockBits 32 = .ok (.ireturn, 1) := by decide +kernel
theorem dX0_lockedWith_0 : decode cX0_lockedWith 0 = .ok (.iconst 0, 1) := by decide +kernel
theorem dX0_lockedWith_1 : decode cX0_lockedWith 1 = .ok (.istore_n 2, 1) := by decide +kernel
theorem dX0_lockedWith_2 : decode cX0_lockedWith 2 = .ok (.iconst 0, 1) := by decide +kernel
theorem dX0_lockedWith_3 : decode cX0_lockedWith 3 = .ok (.istore_n 3, 1) := by decide +kernel
theorem dX0_lockedWith_4 : decode cX0_lockedWith 4 = .ok (.iload_n 3, 1) := by decide +kernel
theorem dX0_lockedWith_5 : decode cX0_lockedWith 5 = .ok (.aload_n 0, 1) := by decide +kernel
theorem dX0_lockedWith_6 : decode cX0_lockedWith 6 = .ok (.getfield 28, 3) := by decide +kernel
theorem dX0_lockedWith_9 : decode cX0_lockedWith 9 = .ok (.if_icmp .ge 66, 3) := by decide +kernel
theorem dX0_lockedWith_12 : decode cX0_lockedWith 12 = .ok (.aload_n 0, 1) := by decide +kernel
theorem dX0_lockedWith_13 : decode cX0_lockedWith 13 = .ok (.getfield 19, 3) := by decide +kernel
theorem dX0_lockedWith_16 : decode cX0_lockedWith 16 = .ok (.iconst 2, 1) := by decide +kernel
theorem dX0_lockedWith_17 : decode cX0_lockedWith 17 = .ok (.iload_n 3, 1) := by decide +kernel
theorem dX0_lockedWith_18 : decode cX0_lockedWith 18 = .ok (.imul, 1) := by decide +kernel
theorem dX0_lockedWith_19 : decode cX0_lockedWith 19 = .ok (.iaload, 1) := by decide +kernel
theorem dX0_lockedWith_20 : decode cX0_lockedWith 20 = .ok (.iload_n 1, 1) := by decide +kernel
theorem dX0_lockedWith_21 : decode cX0_lockedWith 21 = .ok (.if_icmp .ne 21, 3) := by decide +kernel
theorem dX0_lockedWith_24 : decode cX0_lockedWith 24 = .ok (.iload_n 2, 1) := by decide +kernel
theorem dX0_lockedWith_25 : decode cX0_lockedWith 25 = .ok (.iconst 1, 1) := by decide +kernel
theorem dX0_lockedWith_26 : decode cX0_lockedWith 26 = .ok (.aload_n 0, 1) := by decide +kernel
theorem dX0_lockedWith_27 : decode cX0_lockedWith 27 = .ok (.getfield 19, 3) := by decide +kernel
theorem dX0_lockedWith_30 : decode cX0_lockedWith 30 = .ok (.iconst 2, 1) := by decide +kernel
theorem dX0_lockedWith_31 : decode cX0_lockedWith 31 = .ok (.iload_n 3, 1) := by decide +kernel
theorem dX0_lockedWith_32 : decode cX0_lockedWith 32 = .ok (.imul, 1) := by decide +kernel
theorem dX0_lockedWith_33 : decode cX0_lockedWith 33 = .ok (.iconst 1, 1) := by decide +kernel
theorem dX0_lockedWith_34 : decode cX0_lockedWith 34 = .ok (.iadd, 1) := by decide +kernel
theorem dX0_lockedWith_35 : decode cX0_lockedWith 35 = .ok (.iaload, 1) := by decide +kernel
theorem dX0_lockedWith_36 : decode cX0_lockedWith 36 = .ok (.ishl, 1) := by decide +kernel
theorem dX0_lockedWith_37 : decode cX0_lockedWith 37 = .ok (.ior, 1) := by decide +kernel
theorem dX0_lockedWith_38 : decode cX0_lockedWith 38 = .ok (.istore_n 2, 1) := by decide +kernel
theorem dX0_lockedWith_39 : decode cX0_lockedWith 39 = .ok (.goto 30, 3) := by decide +kernel
theorem dX0_lockedWith_42 : decode cX0_lockedWith 42 = .ok (.aload_n 0, 1) := by decide +kernel
theorem dX0_lockedWith_43 : decode cX0_lockedWith 43 = .ok (.getfield 19, 3) := by decide +kernel
theorem dX0_lockedWith_46 : decode cX0_lockedWith 46 = .ok (.iconst 2, 1) := by decide +kernel
theorem dX0_lockedWith_47 : decode cX0_lockedWith 47 = .ok (.iload_n 3, 1) := by decide +kernel
theorem dX0_lockedWith_48 : decode cX0_lockedWith 48 = .ok (.imul, 1) := by decide +kernel
theorem dX0_lockedWith_49 : decode cX0_lockedWith 49 = .ok (.iconst 1, 1) := by decide +kernel
theorem dX0_lockedWith_50 : decode cX0_lockedWith 50 = .ok (.iadd, 1) := by decide +kernel
theorem dX0_lockedWith_51 : decode cX0_lockedWith 51 = .ok (.iaload, 1) := by decide +kernel
theorem dX0_lockedWith_52 : decode cX0_lockedWith 52 = .ok (.iload_n 1, 1) := by decide +kernel
theorem dX0_lockedWith_53 : decode cX0_lockedWith 53 = .ok (.if_icmp .ne 16, 3) := by decide +kernel
theorem dX0_lockedWith_56 : decode cX0_lockedWith 56 = .ok (.iload_n 2, 1) := by decide +kernel
theorem dX0_lockedWith_57 : decode cX0_lockedWith 57 = .ok (.iconst 1, 1) := by decide +kernel
theorem dX0_lockedWith_58 : decode cX0_lockedWith 58 = .ok (.aload_n 0, 1) := by decide +kernel
theorem dX0_lockedWith_59 : decode cX0_lockedWith 59 = .ok (.getfield 19, 3) := by decide +kernel
theorem dX0_lockedWith_62 : decode cX0_lockedWith 62 = .ok (.iconst 2, 1) := by decide +kernel
theorem dX0_lockedWith_63 : decode cX0_lockedWith 63 = .ok (.iload_n 3, 1) := by decide +kernel
theorem dX0_lockedWith_64 : decode cX0_lockedWith 64 = .ok (.imul, 1) := by decide +kernel
theorem dX0_lockedWith_65 : decode cX0_lockedWith 65 = .ok (.iaload, 1) := by decide +kernel
theorem dX0_lockedWith_66 : decode cX0_lockedWith 66 = .ok (.ishl, 1) := by decide +kernel
theorem dX0_lockedWith_67 : decode cX0_lockedWith 67 = .ok (.ior, 1) := by decide +kernel
theorem dX0_lockedWith_68 : decode cX0_lockedWith 68 = .ok (.istore_n 2, 1) := by decide +kernel
theorem dX0_lockedWith_69 : decode cX0_lockedWith 69 = .ok (.iinc 3 1, 3) := by decide +kernel
theorem dX0_lockedWith_72 : decode cX0_lockedWith 72 = .ok (.goto (-68), 3) := by decide +kernel
theorem dX0_lockedWith_75 : decode cX0_lockedWith 75 = .ok (.iload_n 2, 1) := by decide +kernel
theorem dX0_lockedWith_76 : decode cX0_lockedWith 76 = .ok (.ireturn, 1) := by decide +kernel
theorem dX0_allowsOmensIn_0 : decode cX0_allowsOmensIn 0 = .ok (.iconst 0, 1) := by decide +kernel
theorem dX0_allowsOmensIn_1 : decode cX0_allowsOmensIn 1 = .ok (.istore_n 2, 1) := by decide +kernel
theorem dX0_allowsOmensIn_2 : decode cX0_allowsOmensIn 2 = .ok (.iload_n 2, 1) := by decide +kernel
theorem dX0_allowsOmensIn_3 : decode cX0_allowsOmensIn 3 = .ok (.aload_n 0, 1) := by decide +kernel
theorem dX0_allowsOmensIn_4 : decode cX0_allowsOmensIn 4 = .ok (.getfield 28, 3) := by decide +kernel
theorem dX0_allowsOmensIn_7 : decode cX0_allowsOmensIn 7 = .ok (.if_icmp .ge 42, 3) := by decide +kernel
theorem dX0_allowsOmensIn_10 : decode cX0_allowsOmensIn 10 = .ok (.iconst 1, 1) := by decide +kernel
theorem dX0_allowsOmensIn_11 : decode cX0_allowsOmensIn 11 = .ok (.aload_n 0, 1) := by decide +kernel
theorem dX0_allowsOmensIn_12 : decode cX0_allowsOmensIn 12 = .ok (.getfield 19, 3) := by decide +kernel
theorem dX0_allowsOmensIn_15 : decode cX0_allowsOmensIn 15 = .ok (.iconst 2, 1) := by decide +kernel
theorem dX0_allowsOmensIn_16 : decode cX0_allowsOmensIn 16 = .ok (.iload_n 2, 1) := by decide +kernel
theorem dX0_allowsOmensIn_17 : decode cX0_allowsOmensIn 17 = .ok (.imul, 1) := by decide +kernel
theorem dX0_allowsOmensIn_18 : decode cX0_allowsOmensIn 18 = .ok (.iaload, 1) := by decide +kernel
theorem dX0_allowsOmensIn_19 : decode cX0_allowsOmensIn 19 = .ok (.ishl, 1) := by decide +kernel
theorem dX0_allowsOmensIn_20 : decode cX0_allowsOmensIn 20 = .ok (.iconst 1, 1) := by decide +kernel
theorem dX0_allowsOmensIn_21 : decode cX0_allowsOmensIn 21 = .ok (.aload_n 0, 1) := by decide +kernel
theorem dX0_allowsOmensIn_22 : decode cX0_allowsOmensIn 22 = .ok (.getfield 19, 3) := by decide +kernel
theorem dX0_allowsOmensIn_25 : decode cX0_allowsOmensIn 25 = .ok (.iconst 2, 1) := by decide +kernel
theorem dX0_allowsOmensIn_26 : decode cX0_allowsOmensIn 26 = .ok (.iload_n 2, 1) := by decide +kernel
theorem dX0_allowsOmensIn_27 : decode cX0_allowsOmensIn 27 = .ok (.imul, 1) := by decide +kernel
theorem dX0_allowsOmensIn_28 : decode cX0_allowsOmensIn 28 = .ok (.iconst 1, 1) := by decide +kernel
theorem dX0_allowsOmensIn_29 : decode cX0_allowsOmensIn 29 = .ok (.iadd, 1) := by decide +kernel
theorem dX0_allowsOmensIn_30 : decode cX0_allowsOmensIn 30 = .ok (.iaload, 1) := by decide +kernel
theorem dX0_allowsOmensIn_31 : decode cX0_allowsOmensIn 31 = .ok (.ishl, 1) := by decide +kernel
theorem dX0_allowsOmensIn_32 : decode cX0_allowsOmensIn 32 = .ok (.ior, 1) := by decide +kernel
theorem dX0_allowsOmensIn_33 : decode cX0_allowsOmensIn 33 = .ok (.istore_n 3, 1) := by decide +kernel
theorem dX0_allowsOmensIn_34 : decode cX0_allowsOmensIn 34 = .ok (.iload_n 1, 1) := by decide +kernel
theorem dX0_allowsOmensIn_35 : decode cX0_allowsOmensIn 35 = .ok (.iload_n 3, 1) := by decide +kernel
theorem dX0_allowsOmensIn_36 : decode cX0_allowsOmensIn 36 = .ok (.iand, 1) := by decide +kernel
theorem dX0_allowsOmensIn_37 : decode cX0_allowsOmensIn 37 = .ok (.iload_n 3, 1) := by decide +kernel
theorem dX0_allowsOmensIn_38 : decode cX0_allowsOmensIn 38 = .ok (.if_icmp .ne 5, 3) := by decide +kernel
theorem dX0_allowsOmensIn_41 : decode cX0_allowsOmensIn 41 = .ok (.iconst 0, 1) := by decide +kernel
theorem dX0_allowsOmensIn_42 : decode cX0_allowsOmensIn 42 = .ok (.ireturn, 1) := by decide +kernel
theorem dX0_allowsOmensIn_43 : decode cX0_allowsOmensIn 43 = .ok (.iinc 2 1, 3) := by decide +kernel
theorem dX0_allowsOmensIn_46 : decode cX0_allowsOmensIn 46 = .ok (.goto (-44), 3) := by decide +kernel
theorem dX0_allowsOmensIn_49 : decode cX0_allowsOmensIn 49 = .ok (.iconst 1, 1) := by decide +kernel
theorem dX0_allowsOmensIn_50 : decode cX0_allowsOmensIn 50 = .ok (.ireturn, 1) := by decide +kernel
theorem dX0_tryToHang_0 : decode cX0_tryToHang 0 = .ok (.aload_n 0, 1) := by decide +kernel
theorem dX0_tryToHang_1 : decode cX0_tryToHang 1 = .ok (.iload_n 1, 1) := by decide +kernel
theorem dX0_tryToHang_2 : decode cX0_tryToHang 2 = .ok (.invokevirtual 46, 3) := by decide +kernel
theorem dX0_tryToHang_5 : decode cX0_tryToHang 5 = .ok (.ifCond .eq 10, 3) := by decide +kernel
theorem dX0_tryToHang_8 : decode cX0_tryToHang 8 = .ok (.iload_n 2, 1) := by decide +kernel
theorem dX0_tryToHang_9 : decode cX0_tryToHang 9 = .ok (.invokestatic 50, 3) := by decide +kernel
theorem dX0_tryToHang_12 : decode cX0_tryToHang 12 = .ok (.ifCond .ne 5, 3) := by decide +kernel
theorem dX0_tryToHang_15 : decode cX0_tryToHang 15 = .ok (.iconst (-1), 1) := by decide +kernel
theorem dX0_tryToHang_16 : decode cX0_tryToHang 16 = .ok (.ireturn, 1) := by decide +kernel
theorem dX0_tryToHang_17 : decode cX0_tryToHang 17 = .ok (.iload_n 2, 1) := by decide +kernel
theorem dX0_tryToHang_18 : decode cX0_tryToHang 18 = .ok (.ifCond .eq 19, 3) := by decide +kernel
theorem dX0_tryToHang_21 : decode cX0_tryToHang 21 = .ok (.aload_n 0, 1) := by decide +kernel
theorem dX0_tryToHang_22 : decode cX0_tryToHang 22 = .ok (.iload_n 1, 1) := by decide +kernel
theorem dX0_tryToHang_23 : decode cX0_tryToHang 23 = .ok (.invokevirtual 53, 3) := by decide +kernel
theorem dX0_tryToHang_26 : decode cX0_tryToHang 26 = .ok (.aload_n 0, 1) := by decide +kernel
theorem dX0_tryToHang_27 : decode cX0_tryToHang 27 = .ok (.invokevirtual 57, 3) := by decide +kernel
theorem dX0_tryToHang_30 : decode cX0_tryToHang 30 = .ok (.iand, 1) := by decide +kernel
theorem dX0_tryToHang_31 : decode cX0_tryToHang 31 = .ok (.ifCond .eq 6, 3) := by decide +kernel
theorem dX0_tryToHang_34 : decode cX0_tryToHang 34 = .ok (.bipush (-2), 2) := by decide +kernel
theorem dX0_tryToHang_36 : decode cX0_tryToHang 36 = .ok (.ireturn, 1) := by decide +kernel
theorem dX0_tryToHang_37 : decode cX0_tryToHang 37 = .ok (.aload_n 0, 1) := by decide +kernel
theorem dX0_tryToHang_38 : decode cX0_tryToHang 38 = .ok (.getfield 15, 3) := by decide +kernel
theorem dX0_tryToHang_41 : decode cX0_tryToHang 41 = .ok (.iload_n 1, 1) := by decide +kernel
theorem dX0_tryToHang_42 : decode cX0_tryToHang 42 = .ok (.iaload, 1) := by decide +kernel
theorem dX0_tryToHang_43 : decode cX0_tryToHang 43 = .ok (.istore_n 3, 1) := by decide +kernel
theorem dX0_tryToHang_44 : decode cX0_tryToHang 44 = .ok (.aload_n 0, 1) := by decide +kernel
theorem dX0_tryToHang_45 : decode cX0_tryToHang 45 = .ok (.getfield 15, 3) := by decide +kernel
theorem dX0_tryToHang_48 : decode cX0_tryToHang 48 = .ok (.iload_n 1, 1) := by decide +kernel
theorem dX0_tryToHang_49 : decode cX0_tryToHang 49 = .ok (.iload_n 2, 1) := by decide +kernel
theorem dX0_tryToHang_50 : decode cX0_tryToHang 50 = .ok (.iastore, 1) := by decide +kernel
theorem dX0_tryToHang_51 : decode cX0_tryToHang 51 = .ok (.iload_n 3, 1) := by decide +kernel
theorem dX0_tryToHang_52 : decode cX0_tryToHang 52 = .ok (.ireturn, 1) := by decide +kernel
theorem dX0_hangMagpiesIn_0 : decode cX0_hangMagpiesIn 0 = .ok (.iconst 0, 1) := by decide +kernel
theorem dX0_hangMagpiesIn_1 : decode cX0_hangMagpiesIn 1 = .ok (.istore_n 2, 1) := by decide +kernel
theorem dX0_hangMagpiesIn_2 : decode cX0_hangMagpiesIn 2 = .ok (.iload_n 2, 1) := by decide +kernel
theorem dX0_hangMagpiesIn_3 : decode cX0_hangMagpiesIn 3 = .ok (.aload_n 0, 1) := by decide +kernel
theorem dX0_hangMagpiesIn_4 : decode cX0_hangMagpiesIn 4 = .ok (.getfield 9, 3) := by decide +kernel
theorem dX0_hangMagpiesIn_7 : decode cX0_hangMagpiesIn 7 = .ok (.if_icmp .ge 24, 3) := by decide +kernel
theorem dX0_hangMagpiesIn_10 : decode cX0_hangMagpiesIn 10 = .ok (.iload_n 1, 1) := by decide +kernel
theorem dX0_hangMagpiesIn_11 : decode cX0_hangMagpiesIn 11 = .ok (.iload_n 2, 1) := by decide +kernel
theorem dX0_hangMagpiesIn_12 : decode cX0_hangMagpiesIn 12 = .ok (.ishr, 1) := by decide +kernel
theorem dX0_hangMagpiesIn_13 : decode cX0_hangMagpiesIn 13 = .ok (.iconst 1, 1) := by decide +kernel
theorem dX0_hangMagpiesIn_14 : decode cX0_hangMagpiesIn 14 = .ok (.iand, 1) := by decide +kernel
theorem dX0_hangMagpiesIn_15 : decode cX0_hangMagpiesIn 15 = .ok (.ifCond .eq 10, 3) := by decide +kernel
theorem dX0_hangMagpiesIn_18 : decode cX0_hangMagpiesIn 18 = .ok (.aload_n 0, 1) := by decide +kernel
theorem dX0_hangMagpiesIn_19 : decode cX0_hangMagpiesIn 19 = .ok (.getfield 15, 3) := by decide +kernel
theorem dX0_hangMagpiesIn_22 : decode cX0_hangMagpiesIn 22 = .ok (.iload_n 2, 1) := by decide +kernel
theorem dX0_hangMagpiesIn_23 : decode cX0_hangMagpiesIn 23 = .ok (.iconst 1, 1) := by decide +kernel
theorem dX0_hangMagpiesIn_24 : decode cX0_hangMagpiesIn 24 = .ok (.iastore, 1) := by decide +kernel
theorem dX0_hangMagpiesIn_25 : decode cX0_hangMagpiesIn 25 = .ok (.iinc 2 1, 3) := by decide +kernel
theorem dX0_hangMagpiesIn_28 : decode cX0_hangMagpiesIn 28 = .ok (.goto (-26), 3) := by decide +kernel
theorem dX0_hangMagpiesIn_31 : decode cX0_hangMagpiesIn 31 = .ok (.return_, 1) := by decide +kernel
theorem dX0_allWorths_0 : decode cX0_allWorths 0 = .ok (.iconst 0, 1) := by decide +kernel
theorem dX0_allWorths_1 : decode cX0_allWorths 1 = .ok (.istore_n 1, 1) := by decide +kernel
theorem dX0_allWorths_2 : decode cX0_allWorths 2 = .ok (.iconst 0, 1) := by decide +kernel
theorem dX0_allWorths_3 : decode cX0_allWorths 3 = .ok (.istore_n 2, 1) := by decide +kernel
theorem dX0_allWorths_4 : decode cX0_allWorths 4 = .ok (.iload_n 2, 1) := by decide +kernel
theorem dX0_allWorths_5 : decode cX0_allWorths 5 = .ok (.aload_n 0, 1) := by decide +kernel
theorem dX0_allWorths_6 : decode cX0_allWorths 6 = .ok (.getfield 31, 3) := by decide +kernel
theorem dX0_allWorths_9 : decode cX0_allWorths 9 = .ok (.if_icmp .ge 18, 3) := by decide +kernel
theorem dX0_allWorths_12 : decode cX0_allWorths 12 = .ok (.iload_n 1, 1) := by decide +kernel
theorem dX0_allWorths_13 : decode cX0_allWorths 13 = .ok (.aload_n 0, 1) := by decide +kernel
theorem dX0_allWorths_14 : decode cX0_allWorths 14 = .ok (.iload_n 2, 1) := by decide +kernel
theorem dX0_allWorths_15 : decode cX0_allWorths 15 = .ok (.iconst 3, 1) := by decide +kernel
theorem dX0_allWorths_16 : decode cX0_allWorths 16 = .ok (.invokevirtual 61, 3) := by decide +kernel
theorem dX0_allWorths_19 : decode cX0_allWorths 19 = .ok (.iadd, 1) := by decide +kernel
theorem dX0_allWorths_20 : decode cX0_allWorths 20 = .ok (.istore_n 1, 1) := by decide +kernel
theorem dX0_allWorths_21 : decode cX0_allWorths 21 = .ok (.iinc 2 1, 3) := by decide +kernel
theorem dX0_allWorths_24 : decode cX0_allWorths 24 = .ok (.goto (-20), 3) := by decide +kernel
theorem dX0_allWorths_27 : decode cX0_allWorths 27 = .ok (.iload_n 1, 1) := by decide +kernel
theorem dX0_allWorths_28 : decode cX0_allWorths 28 = .ok (.ireturn, 1) := by decide +kernel
theorem dX0_lastBlockOf_0 : decode cX0_lastBlockOf 0 = .ok (.aload_n 0, 1) := by decide +kernel
theorem dX0_lastBlockOf_1 : decode cX0_lastBlockOf 1 = .ok (.iload_n 1, 1) := by decide +kernel
theorem dX0_lastBlockOf_2 : decode cX0_lastBlockOf 2 = .ok (.iconst 1, 1) := by decide +kernel
theorem dX0_lastBlockOf_3 : decode cX0_lastBlockOf 3 = .ok (.invokevirtual 61, 3) := by decide +kernel
theorem dX0_lastBlockOf_6 : decode cX0_lastBlockOf 6 = .ok (.ifCond .ne 12, 3) := by decide +kernel
theorem dX0_lastBlockOf_9 : decode cX0_lastBlockOf 9 = .ok (.aload_n 0, 1) := by decide +kernel
theorem dX0_lastBlockOf_10 : decode cX0_lastBlockOf 10 = .ok (.getfield 9, 3) := by decide +kernel
theorem dX0_lastBlockOf_13 : decode cX0_lastBlockOf 13 = .ok (.iconst 1, 1) := by decide +kernel
theorem dX0_lastBlockOf_14 : decode cX0_lastBlockOf 14 = .ok (.isub, 1) := by decide +kernel
theorem dX0_lastBlockOf_15 : decode cX0_lastBlockOf 15 = .ok (.goto 4, 3) := by decide +kernel
theorem dX0_lastBlockOf_18 : decode cX0_lastBlockOf 18 = .ok (.iconst 0, 1) := by decide +kernel
theorem dX0_lastBlockOf_19 : decode cX0_lastBlockOf 19 = .ok (.ireturn, 1) := by decide +kernel
theorem dX0_nextBlockOf_0 : decode cX0_nextBlockOf 0 = .ok (.aload_n 0, 1) := by decide +kernel
theorem dX0_nextBlockOf_1 : decode cX0_nextBlockOf 1 = .ok (.iload_n 1, 1) := by decide +kernel
theorem dX0_nextBlockOf_2 : decode cX0_nextBlockOf 2 = .ok (.iconst 1, 1) := by decide +kernel
theorem dX0_nextBlockOf_3 : decode cX0_nextBlockOf 3 = .ok (.invokevirtual 61, 3) := by decide +kernel
theorem dX0_nextBlockOf_6 : decode cX0_nextBlockOf 6 = .ok (.ifCond .ne 17, 3) := by decide +kernel
theorem dX0_nextBlockOf_9 : decode cX0_nextBlockOf 9 = .ok (.iload_n 2, 1) := by decide +kernel
theorem dX0_nextBlockOf_10 : decode cX0_nextBlockOf 10 = .ok (.bipush (-4), 2) := by decide +kernel
theorem dX0_nextBlockOf_12 : decode cX0_nextBlockOf 12 = .ok (.if_icmp .ne 7, 3) := by decide +kernel
theorem dX0_nextBlockOf_15 : decode cX0_nextBlockOf 15 = .ok (.iconst 0, 1) := by decide +kernel
theorem dX0_nextBlockOf_16 : decode cX0_nextBlockOf 16 = .ok (.goto 6, 3) := by decide +kernel
theorem dX0_nextBlockOf_19 : decode cX0_nextBlockOf 19 = .ok (.iload_n 2, 1) := by decide +kernel
theorem dX0_nextBlockOf_20 : decode cX0_nextBlockOf 20 = .ok (.iconst 1, 1) := by decide +kernel
theorem dX0_nextBlockOf_21 : decode cX0_nextBlockOf 21 = .ok (.iadd, 1) := by decide +kernel
theorem dX0_nextBlockOf_22 : decode cX0_nextBlockOf 22 = .ok (.ireturn, 1) := by decide +kernel
theorem dX0_nextBlockOf_23 : decode cX0_nextBlockOf 23 = .ok (.iload_n 2, 1) := by decide +kernel
theorem dX0_nextBlockOf_24 : decode cX0_nextBlockOf 24 = .ok (.bipush (-4), 2) := by decide +kernel
theorem dX0_nextBlockOf_26 : decode cX0_nextBlockOf 26 = .ok (.if_icmp .ne 12, 3) := by decide +kernel
theorem dX0_nextBlockOf_29 : decode cX0_nextBlockOf 29 = .ok (.aload_n 0, 1) := by decide +kernel
theorem dX0_nextBlockOf_30 : decode cX0_nextBlockOf 30 = .ok (.getfield 9, 3) := by decide +kernel
theorem dX0_nextBlockOf_33 : decode cX0_nextBlockOf 33 = .ok (.iconst 1, 1) := by decide +kernel
theorem dX0_nextBlockOf_34 : decode cX0_nextBlockOf 34 = .ok (.isub, 1) := by decide +kernel
theorem dX0_nextBlockOf_35 : decode cX0_nextBlockOf 35 = .ok (.goto 6, 3) := by decide +kernel
theorem dX0_nextBlockOf_38 : decode cX0_nextBlockOf 38 = .ok (.iload_n 2, 1) := by decide +kernel
theorem dX0_nextBlockOf_39 : decode cX0_nextBlockOf 39 = .ok (.iconst 1, 1) := by decide +kernel
theorem dX0_nextBlockOf_40 : decode cX0_nextBlockOf 40 = .ok (.isub, 1) := by decide +kernel
theorem dX0_nextBlockOf_41 : decode cX0_nextBlockOf 41 = .ok (.ireturn, 1) := by decide +kernel
theorem dX1_init_0 : decode cX1_init 0 = .ok (.aload_n 0, 1) := by decide +kernel
theorem dX1_init_1 : decode cX1_init 1 = .ok (.invokespecial 3, 3) := by decide +kernel
theorem dX1_init_4 : decode cX1_init 4 = .ok (.aload_n 0, 1) := by decide +kernel
theorem dX1_init_5 : decode cX1_init 5 = .ok (.aload_n 1, 1) := by decide +kernel
theorem dX1_init_6 : decode cX1_init 6 = .ok (.putfield 9, 3) := by decide +kernel
theorem dX1_init_9 : decode cX1_init 9 = .ok (.aload_n 0, 1) := by decide +kernel
theorem dX1_init_10 : decode cX1_init 10 = .ok (.aload_n 2, 1) := by decide +kernel
theorem dX1_init_11 : decode cX1_init 11 = .ok (.putfield 15, 3) := by decide +kernel
theorem dX1_init_14 : decode cX1_init 14 = .ok (.return_, 1) := by decide +kernel
theorem dX1_weigh_0 : decode cX1_weigh 0 = .ok (.aload_n 1, 1) := by decide +kernel
theorem dX1_weigh_1 : decode cX1_weigh 1 = .ok (.invokevirtual 19, 3) := by decide +kernel
theorem dX1_weigh_4 : decode cX1_weigh 4 = .ok (.istore_n 3, 1) := by decide +kernel
theorem dX1_weigh_5 : decode cX1_weigh 5 = .ok (.aload_n 0, 1) := by decide +kernel
theorem dX1_weigh_6 : decode cX1_weigh 6 = .ok (.iconst 0, 1) := by decide +kernel
theorem dX1_weigh_7 : decode cX1_weigh 7 = .ok (.iload_n 3, 1) := by decide +kernel
theorem dX1_weigh_8 : decode cX1_weigh 8 = .ok (.iconst 0, 1) := by decide +kernel
theorem dX1_weigh_9 : decode cX1_weigh 9 = .ok (.aload_n 1, 1) := by decide +kernel
theorem dX1_weigh_10 : decode cX1_weigh 10 = .ok (.getfield 25, 3) := by decide +kernel
theorem dX1_weigh_13 : decode cX1_weigh 13 = .ok (.invokestatic 29, 3) := by decide +kernel
theorem dX1_weigh_16 : decode cX1_weigh 16 = .ok (.putfield 33, 3) := by decide +kernel
theorem dX1_weigh_19 : decode cX1_weigh 19 = .ok (.aload_n 0, 1) := by decide +kernel
theorem dX1_weigh_20 : decode cX1_weigh 20 = .ok (.lconst 0, 1) := by decide +kernel
theorem dX1_weigh_21 : decode cX1_weigh 21 = .ok (.putfield 37, 3) := by decide +kernel
theorem dX1_weigh_24 : decode cX1_weigh 24 = .ok (.aload_n 0, 1) := by decide +kernel
theorem dX1_weigh_25 : decode cX1_weigh 25 = .ok (.lconst 0, 1) := by decide +kernel
theorem dX1_weigh_26 : decode cX1_weigh 26 = .ok (.putfield 40, 3) := by decide +kernel
theorem dX1_weigh_29 : decode cX1_weigh 29 = .ok (.iconst 0, 1) := by decide +kernel
theorem dX1_weigh_30 : decode cX1_weigh 30 = .ok (.istore 4, 2) := by decide +kernel
theorem dX1_weigh_32 : decode cX1_weigh 32 = .ok (.iload 4, 2) := by decide +kernel
theorem dX1_weigh_34 : decode cX1_weigh 34 = .ok (.iconst 1, 1) := by decide +kernel
theorem dX1_weigh_35 : decode cX1_weigh 35 = .ok (.aload_n 1, 1) := by decide +kernel
theorem dX1_weigh_36 : decode cX1_weigh 36 = .ok (.getfield 25, 3) := by decide +kernel
theorem dX1_weigh_39 : decode cX1_weigh 39 = .ok (.ishl, 1) := by decide +kernel
theorem dX1_weigh_40 : decode cX1_weigh 40 = .ok (.if_icmp .ge 115, 3) := by decide +kernel
theorem dX1_weigh_43 : decode cX1_weigh 43 = .ok (.iload 4, 2) := by decide +kernel
theorem dX1_weigh_45 : decode cX1_weigh 45 = .ok (.iload_n 3, 1) := by decide +kernel
theorem dX1_weigh_46 : decode cX1_weigh 46 = .ok (.iand, 1) := by decide +kernel
theorem dX1_weigh_47 : decode cX1_weigh 47 = .ok (.ifCond .ne 17, 3) := by decide +kernel
theorem dX1_weigh_50 : decode cX1_weigh 50 = .ok (.iload 4, 2) := by decide +kernel
theorem dX1_weigh_52 : decode cX1_weigh 52 = .ok (.iload_n 3, 1) := by decide +kernel
theorem dX1_weigh_53 : decode cX1_weigh 53 = .ok (.iload_n 2, 1) := by decide +kernel
theorem dX1_weigh_54 : decode cX1_weigh 54 = .ok (.aload_n 1, 1) := by decide +kernel
theorem dX1_weigh_55 : decode cX1_weigh 55 = .ok (.getfield 25, 3) := by decide +kernel
theorem dX1_weigh_58 : decode cX1_weigh 58 = .ok (.invokestatic 29, 3) := by decide +kernel
theorem dX1_weigh_61 : decode cX1_weigh 61 = .ok (.goto 4, 3) := by decide +kernel
theorem dX1_weigh_64 : decode cX1_weigh 64 = .ok (.lconst 0, 1) := by decide +kernel
theorem dX1_weigh_65 : decode cX1_weigh 65 = .ok (.lstore 5, 2) := by decide +kernel
theorem dX1_weigh_67 : decode cX1_weigh 67 = .ok (.lload 5, 2) := by decide +kernel
theorem dX1_weigh_69 : decode cX1_weigh 69 = .ok (.lconst 0, 1) := by decide +kernel
theorem dX1_weigh_70 : decode cX1_weigh 70 = .ok (.lcmp, 1) := by decide +kernel
theorem dX1_weigh_71 : decode cX1_weigh 71 = .ok (.ifCond .le 78, 3) := by decide +kernel
theorem dX1_weigh_74 : decode cX1_weigh 74 = .ok (.aload_n 0, 1) := by decide +kernel
theorem dX1_weigh_75 : decode cX1_weigh 75 = .ok (.getfield 9, 3) := by decide +kernel
theorem dX1_weigh_78 : decode cX1_weigh 78 = .ok (.aload_n 1, 1) := by decide +kernel
theorem dX1_weigh_79 : decode cX1_weigh 79 = .ok (.invokevirtual 43, 3) := by decide +kernel
theorem dX1_weigh_82 : decode cX1_weigh 82 = .ok (.aload_n 0, 1) := by decide +kernel
theorem dX1_weigh_83 : decode cX1_weigh 83 = .ok (.getfield 9, 3) := by decide +kernel
theorem dX1_weigh_86 : decode cX1_weigh 86 = .ok (.iload 4, 2) := by decide +kernel
theorem dX1_weigh_88 : decode cX1_weigh 88 = .ok (.invokevirtual 47, 3) := by decide +kernel
theorem dX1_weigh_91 : decode cX1_weigh 91 = .ok (.aload_n 0, 1) := by decide +kernel
theorem dX1_weigh_92 : decode cX1_weigh 92 = .ok (.getfield 15, 3) := by decide +kernel
theorem dX1_weigh_95 : decode cX1_weigh 95 = .ok (.aload_n 0, 1) := by decide +kernel
theorem dX1_weigh_96 : decode cX1_weigh 96 = .ok (.getfield 9, 3) := by decide +kernel
theorem dX1_weigh_99 : decode cX1_weigh 99 = .ok (.invokevirtual 51, 3) := by decide +kernel
theorem dX1_weigh_102 : decode cX1_weigh 102 = .ok (.aload_n 0, 1) := by decide +kernel
theorem dX1_weigh_103 : decode cX1_weigh 103 = .ok (.dup, 1) := by decide +kernel
theorem dX1_weigh_104 : decode cX1_weigh 104 = .ok (.getfield 37, 3) := by decide +kernel
theorem dX1_weigh_107 : decode cX1_weigh 107 = .ok (.lload 5, 2) := by decide +kernel
theorem dX1_weigh_109 : decode cX1_weigh 109 = .ok (.aload_n 0, 1) := by decide +kernel
theorem dX1_weigh_110 : decode cX1_weigh 110 = .ok (.getfield 15, 3) := by decide +kernel
theorem dX1_weigh_113 : decode cX1_weigh 113 = .ok (.getfield 56, 3) := by decide +kernel
theorem dX1_weigh_116 : decode cX1_weigh 116 = .ok (.i2l, 1) := by decide +kernel
theorem dX1_weigh_117 : decode cX1_weigh 117 = .ok (.lmul, 1) := by decide +kernel
theorem dX1_weigh_118 : decode cX1_weigh 118 = .ok (.ladd, 1) := by decide +kernel
theorem dX1_weigh_119 : decode cX1_weigh 119 = .ok (.putfield 37, 3) := by decide +kernel
theorem dX1_weigh_122 : decode cX1_weigh 122 = .ok (.aload_n 0, 1) := by decide +kernel
theorem dX1_weigh_123 : decode cX1_weigh 123 = .ok (.dup, 1) := by decide +kernel
theorem dX1_weigh_124 : decode cX1_weigh 124 = .ok (.getfield 40, 3) := by decide +kernel
theorem dX1_weigh_127 : decode cX1_weigh 127 = .ok (.aload_n 0, 1) := by decide +kernel
theorem dX1_weigh_128 : decode cX1_weigh 128 = .ok (.getfield 15, 3) := by decide +kernel
theorem dX1_weigh_131 : decode cX1_weigh 131 = .ok (.getfield 59, 3) := by decide +kernel
theorem dX1_weigh_134 : decode cX1_weigh 134 = .ok (.bipush (-4), 2) := by decide +kernel
theorem dX1_weigh_136 : decode cX1_weigh 136 = .ok (.if_icmp .ne 8, 3) := by decide +kernel
theorem dX1_weigh_139 : decode cX1_weigh 139 = .ok (.lload 5, 2) := by decide +kernel
theorem dX1_weigh_141 : decode cX1_weigh 141 = .ok (.goto 4, 3) := by decide +kernel
theorem dX1_weigh_144 : decode cX1_weigh 144 = .ok (.lconst 0, 1) := by decide +kernel
theorem dX1_weigh_145 : decode cX1_weigh 145 = .ok (.ladd, 1) := by decide +kernel
theorem dX1_weigh_146 : decode cX1_weigh 146 = .ok (.putfield 40, 3) := by decide +kernel
theorem dX1_weigh_149 : decode cX1_weigh 149 = .ok (.iinc 4 1, 3) := by decide +kernel
theorem dX1_weigh_152 : decode cX1_weigh 152 = .ok (.goto (-120), 3) := by decide +kernel
theorem dX1_weigh_155 : decode cX1_weigh 155 = .ok (.return_, 1) := by decide +kernel
theorem dX1_weightOf_0 : decode cX1_weightOf 0 = .ok (.lconst 1, 1) := by decide +kernel
theorem dX1_weightOf_1 : decode cX1_weightOf 1 = .ok (.lstore 4, 2) := by decide +kernel
theorem dX1_weightOf_3 : decode cX1_weightOf 3 = .ok (.iconst 0, 1) := by decide +kernel
theorem dX1_weightOf_4 : decode cX1_weightOf 4 = .ok (.istore 6, 2) := by decide +kernel
theorem dX1_weightOf_6 : decode cX1_weightOf 6 = .ok (.iload 6, 2) := by decide +kernel
theorem dX1_weightOf_8 : decode cX1_weightOf 8 = .ok (.iload_n 3, 1) := by decide +kernel
theorem dX1_weightOf_9 : decode cX1_weightOf 9 = .ok (.if_icmp .ge 42, 3) := by decide +kernel
theorem dX1_weightOf_12 : decode cX1_weightOf 12 = .ok (.iload_n 1, 1) := by decide +kernel
theorem dX1_weightOf_13 : decode cX1_weightOf 13 = .ok (.iload 6, 2) := by decide +kernel
theorem dX1_weightOf_15 : decode cX1_weightOf 15 = .ok (.ishr, 1) := by decide +kernel
theorem dX1_weightOf_16 : decode cX1_weightOf 16 = .ok (.iconst 1, 1) := by decide +kernel
theorem dX1_weightOf_17 : decode cX1_weightOf 17 = .ok (.iand, 1) := by decide +kernel
theorem dX1_weightOf_18 : decode cX1_weightOf 18 = .ok (.ifCond .ne 27, 3) := by decide +kernel
theorem dX1_weightOf_21 : decode cX1_weightOf 21 = .ok (.lload 4, 2) := by decide +kernel
theorem dX1_weightOf_23 : decode cX1_weightOf 23 = .ok (.iload_n 0, 1) := by decide +kernel
theorem dX1_weightOf_24 : decode cX1_weightOf 24 = .ok (.iload 6, 2) := by decide +kernel
theorem dX1_weightOf_26 : decode cX1_weightOf 26 = .ok (.ishr, 1) := by decide +kernel
theorem dX1_weightOf_27 : decode cX1_weightOf 27 = .ok (.iconst 1, 1) := by decide +kernel
theorem dX1_weightOf_28 : decode cX1_weightOf 28 = .ok (.iand, 1) := by decide +kernel
theorem dX1_weightOf_29 : decode cX1_weightOf 29 = .ok (.ifCond .eq 8, 3) := by decide +kernel
theorem dX1_weightOf_32 : decode cX1_weightOf 32 = .ok (.iload_n 2, 1) := by decide +kernel
theorem dX1_weightOf_33 : decode cX1_weightOf 33 = .ok (.i2l, 1) := by decide +kernel
theorem dX1_weightOf_34 : decode cX1_weightOf 34 = .ok (.goto 8, 3) := by decide +kernel
theorem dX1_weightOf_37 : decode cX1_weightOf 37 = .ok (.bipush 10, 2) := by decide +kernel
theorem dX1_weightOf_39 : decode cX1_weightOf 39 = .ok (.iload_n 2, 1) := by decide +kernel
theorem dX1_weightOf_40 : decode cX1_weightOf 40 = .ok (.isub, 1) := by decide +kernel
theorem dX1_weightOf_41 : decode cX1_weightOf 41 = .ok (.i2l, 1) := by decide +kernel
theorem dX1_weightOf_42 : decode cX1_weightOf 42 = .ok (.lmul, 1) := by decide +kernel
theorem dX1_weightOf_43 : decode cX1_weightOf 43 = .ok (.lstore 4, 2) := by decide +kernel
theorem dX1_weightOf_45 : decode cX1_weightOf 45 = .ok (.iinc 6 1, 3) := by decide +kernel
theorem dX1_weightOf_48 : decode cX1_weightOf 48 = .ok (.goto (-42), 3) := by decide +kernel
theorem dX1_weightOf_51 : decode cX1_weightOf 51 = .ok (.lload 4, 2) := by decide +kernel
theorem dX1_weightOf_53 : decode cX1_weightOf 53 = .ok (.lreturn, 1) := by decide +kernel
theorem dX2_init_0 : decode cX2_init 0 = .ok (.aload_n 0, 1) := by decide +kernel
theorem dX2_init_1 : decode cX2_init 1 = .ok (.invokespecial 3, 3) := by decide +kernel
theorem dX2_init_4 : decode cX2_init 4 = .ok (.aload_n 0, 1) := by decide +kernel
theorem dX2_init_5 : decode cX2_init 5 = .ok (.iconst 4, 1) := by decide +kernel
theorem dX2_init_6 : decode cX2_init 6 = .ok (.newarray .int, 2) := by decide +kernel
theorem dX2_init_8 : decode cX2_init 8 = .ok (.putfield 9, 3) := by decide +kernel
theorem dX2_init_11 : decode cX2_init 11 = .ok (.aload_n 0, 1) := by decide +kernel
theorem dX2_init_12 : decode cX2_init 12 = .ok (.iconst 4, 1) := by decide +kernel
theorem dX2_init_13 : decode cX2_init 13 = .ok (.newarray .int, 2) := by decide +kernel
theorem dX2_init_15 : decode cX2_init 15 = .ok (.putfield 15, 3) := by decide +kernel
theorem dX2_init_18 : decode cX2_init 18 = .ok (.aload_n 0, 1) := by decide +kernel
theorem dX2_init_19 : decode cX2_init 19 = .ok (.iconst 4, 1) := by decide +kernel
theorem dX2_init_20 : decode cX2_init 20 = .ok (.newarray .int, 2) := by decide +kernel
theorem dX2_init_22 : decode cX2_init 22 = .ok (.putfield 18, 3) := by decide +kernel
theorem dX2_init_25 : decode cX2_init 25 = .ok (.aload_n 0, 1) := by decide +kernel
theorem dX2_init_26 : decode cX2_init 26 = .ok (.sipush 480, 3) := by decide +kernel
theorem dX2_init_29 : decode cX2_init 29 = .ok (.newarray .int, 2) := by decide +kernel
theorem dX2_init_31 : decode cX2_init 31 = .ok (.putfield 21, 3) := by decide +kernel
theorem dX2_init_34 : decode cX2_init 34 = .ok (.return_, 1) := by decide +kernel
theorem dX2_play_0 : decode cX2_play 0 = .ok (.aload_n 0, 1) := by decide +kernel
theorem dX2_play_1 : decode cX2_play 1 = .ok (.invokevirtual 24, 3) := by decide +kernel
theorem dX2_play_4 : decode cX2_play 4 = .ok (.iconst 0, 1) := by decide +kernel
theorem dX2_play_5 : decode cX2_play 5 = .ok (.istore_n 2, 1) := by decide +kernel
theorem dX2_play_6 : decode cX2_play 6 = .ok (.iconst 0, 1) := by decide +kernel
theorem dX2_play_7 : decode cX2_play 7 = .ok (.istore_n 3, 1) := by decide +kernel
theorem dX2_play_8 : decode cX2_play 8 = .ok (.iload_n 3, 1) := by decide +kernel
theorem dX2_play_9 : decode cX2_play 9 = .ok (.bipush 120, 2) := by decide +kernel
theorem dX2_play_11 : decode cX2_play 11 = .ok (.if_icmp .ge 95, 3) := by decide +kernel
theorem dX2_play_14 : decode cX2_play 14 = .ok (.iload_n 2, 1) := by decide +kernel
theorem dX2_play_15 : decode cX2_play 15 = .ok (.ifCond .ne 91, 3) := by decide +kernel
theorem dX2_play_18 : decode cX2_play 18 = .ok (.aload_n 1, 1) := by decide +kernel
theorem dX2_play_19 : decode cX2_play 19 = .ok (.getfield 27, 3) := by decide +kernel
theorem dX2_play_22 : decode cX2_play 22 = .ok (.aload_n 0, 1) := by decide +kernel
theorem dX2_play_23 : decode cX2_play 23 = .ok (.getfield 33, 3) := by decide +kernel
theorem dX2_play_26 : decode cX2_play 26 = .ok (.isub, 1) := by decide +kernel
theorem dX2_play_27 : decode cX2_play 27 = .ok (.istore 4, 2) := by decide +kernel
theorem dX2_play_29 : decode cX2_play 29 = .ok (.aload_n 0, 1) := by decide +kernel
theorem dX2_play_30 : decode cX2_play 30 = .ok (.getfield 36, 3) := by decide +kernel
theorem dX2_play_33 : decode cX2_play 33 = .ok (.istore 5, 2) := by decide +kernel
theorem dX2_play_35 : decode cX2_play 35 = .ok (.aload_n 0, 1) := by decide +kernel
theorem dX2_play_36 : decode cX2_play 36 = .ok (.aload_n 1, 1) := by decide +kernel
theorem dX2_play_37 : decode cX2_play 37 = .ok (.iload_n 3, 1) := by decide +kernel
theorem dX2_play_38 : decode cX2_play 38 = .ok (.invokevirtual 39, 3) := by decide +kernel
theorem dX2_play_41 : decode cX2_play 41 = .ok (.aload_n 0, 1) := by decide +kernel
theorem dX2_play_42 : decode cX2_play 42 = .ok (.iload_n 3, 1) := by decide +kernel
theorem dX2_play_43 : decode cX2_play 43 = .ok (.putfield 43, 3) := by decide +kernel
theorem dX2_play_46 : decode cX2_play 46 = .ok (.aload_n 0, 1) := by decide +kernel
theorem dX2_play_47 : decode cX2_play 47 = .ok (.getfield 36, 3) := by decide +kernel
theorem dX2_play_50 : decode cX2_play 50 = .ok (.iload 5, 2) := by decide +kernel
theorem dX2_play_52 : decode cX2_play 52 = .ok (.isub, 1) := by decide +kernel
theorem dX2_play_53 : decode cX2_play 53 = .ok (.istore 6, 2) := by decide +kernel
theorem dX2_play_55 : decode cX2_play 55 = .ok (.iload 6, 2) := by decide +kernel
theorem dX2_play_57 : decode cX2_play 57 = .ok (.iload 4, 2) := by decide +kernel
theorem dX2_play_59 : decode cX2_play 59 = .ok (.if_icmp .ne 19, 3) := by decide +kernel
theorem dX2_play_62 : decode cX2_play 62 = .ok (.aload_n 0, 1) := by decide +kernel
theorem dX2_play_63 : decode cX2_play 63 = .ok (.dup, 1) := by decide +kernel
theorem dX2_play_64 : decode cX2_play 64 = .ok (.getfield 36, 3) := by decide +kernel
theorem dX2_play_67 : decode cX2_play 67 = .ok (.iload 6, 2) := by decide +kernel
theorem dX2_play_69 : decode cX2_play 69 = .ok (.bipush 119, 2) := by decide +kernel
theorem dX2_play_71 : decode cX2_play 71 = .ok (.iload_n 3, 1) := by decide +kernel
theorem dX2_play_72 : decode cX2_play 72 = .ok (.isub, 1) := by decide +kernel
theorem dX2_play_73 : decode cX2_play 73 = .ok (.imul, 1) := by decide +kernel
theorem dX2_play_74 : decode cX2_play 74 = .ok (.iadd, 1) := by decide +kernel
theorem dX2_play_75 : decode cX2_play 75 = .ok (.putfield 36, 3) := by decide +kernel
theorem dX2_play_78 : decode cX2_play 78 = .ok (.iload 6, 2) := by decide +kernel
theorem dX2_play_80 : decode cX2_play 80 = .ok (.iload 4, 2) := by decide +kernel
theorem dX2_play_82 : decode cX2_play 82 = .ok (.if_icmp .eq 12, 3) := by decide +kernel
theorem dX2_play_85 : decode cX2_play 85 = .ok (.aload_n 0, 1) := by decide +kernel
theorem dX2_play_86 : decode cX2_play 86 = .ok (.getfield 46, 3) := by decide +kernel
theorem dX2_play_89 : decode cX2_play 89 = .ok (.bipush (-4), 2) := by decide +kernel
theorem dX2_play_91 : decode cX2_play 91 = .ok (.if_icmp .eq 7, 3) := by decide +kernel
theorem dX2_play_94 : decode cX2_play 94 = .ok (.iconst 1, 1) := by decide +kernel
theorem dX2_play_95 : decode cX2_play 95 = .ok (.goto 4, 3) := by decide +kernel
theorem dX2_play_98 : decode cX2_play 98 = .ok (.iconst 0, 1) := by decide +kernel
theorem dX2_play_99 : decode cX2_play 99 = .ok (.istore_n 2, 1) := by decide +kernel
theorem dX2_play_100 : decode cX2_play 100 = .ok (.iinc 3 1, 3) := by decide +kernel
theorem dX2_play_103 : decode cX2_play 103 = .ok (.goto (-95), 3) := by decide +kernel
theorem dX2_play_106 : decode cX2_play 106 = .ok (.aload_n 0, 1) := by decide +kernel
theorem dX2_play_107 : decode cX2_play 107 = .ok (.aload_n 1, 1) := by decide +kernel
theorem dX2_play_108 : decode cX2_play 108 = .ok (.invokevirtual 49, 3) := by decide +kernel
theorem dX2_play_111 : decode cX2_play 111 = .ok (.return_, 1) := by decide +kernel
theorem dX2_begin_0 : decode cX2_begin 0 = .ok (.aload_n 0, 1) := by decide +kernel
theorem dX2_begin_1 : decode cX2_begin 1 = .ok (.getfield 9, 3) := by decide +kernel
theorem dX2_begin_4 : decode cX2_begin 4 = .ok (.bipush (-4), 2) := by decide +kernel
theorem dX2_begin_6 : decode cX2_begin 6 = .ok (.invokestatic 53, 3) := by decide +kernel
theorem dX2_begin_9 : decode cX2_begin 9 = .ok (.aload_n 0, 1) := by decide +kernel
theorem dX2_begin_10 : decode cX2_begin 10 = .ok (.getfield 15, 3) := by decide +kernel
theorem dX2_begin_13 : decode cX2_begin 13 = .ok (.iconst (-1), 1) := by decide +kernel
theorem dX2_begin_14 : decode cX2_begin 14 = .ok (.invokestatic 53, 3) := by decide +kernel
theorem dX2_begin_17 : decode cX2_begin 17 = .ok (.aload_n 0, 1) := by decide +kernel
theorem dX2_begin_18 : decode cX2_begin 18 = .ok (.getfield 18, 3) := by decide +kernel
theorem dX2_begin_21 : decode cX2_begin 21 = .ok (.bipush (-4), 2) := by decide +kernel
theorem dX2_begin_23 : decode cX2_begin 23 = .ok (.invokestatic 53, 3) := by decide +kernel
theorem dX2_begin_26 : decode cX2_begin 26 = .ok (.aload_n 0, 1) := by decide +kernel
theorem dX2_begin_27 : decode cX2_begin 27 = .ok (.bipush (-4), 2) := by decide +kernel
theorem dX2_begin_29 : decode cX2_begin 29 = .ok (.putfield 46, 3) := by decide +kernel
theorem dX2_begin_32 : decode cX2_begin 32 = .ok (.aload_n 0, 1) := by decide +kernel
theorem dX2_begin_33 : decode cX2_begin 33 = .ok (.iconst 0, 1) := by decide +kernel
theorem dX2_begin_34 : decode cX2_begin 34 = .ok (.putfield 33, 3) := by decide +kernel
theorem dX2_begin_37 : decode cX2_begin 37 = .ok (.aload_n 0, 1) := by decide +kernel
theorem dX2_begin_38 : decode cX2_begin 38 = .ok (.iconst 0, 1) := by decide +kernel
theorem dX2_begin_39 : decode cX2_begin 39 = .ok (.putfield 59, 3) := by decide +kernel
theorem dX2_begin_42 : decode cX2_begin 42 = .ok (.aload_n 0, 1) := by decide +kernel
theorem dX2_begin_43 : decode cX2_begin 43 = .ok (.iconst 0, 1) := by decide +kernel
theorem dX2_begin_44 : decode cX2_begin 44 = .ok (.putfield 36, 3) := by decide +kernel
theorem dX2_begin_47 : decode cX2_begin 47 = .ok (.aload_n 0, 1) := by decide +kernel
theorem dX2_begin_48 : decode cX2_begin 48 = .ok (.iconst 0, 1) := by decide +kernel
theorem dX2_begin_49 : decode cX2_begin 49 = .ok (.putfield 62, 3) := by decide +kernel
theorem dX2_begin_52 : decode cX2_begin 52 = .ok (.return_, 1) := by decide +kernel
theorem dX2_playMinute_0 : decode cX2_playMinute 0 = .ok (.iconst 0, 1) := by decide +kernel
theorem dX2_playMinute_1 : decode cX2_playMinute 1 = .ok (.istore_n 3, 1) := by decide +kernel
theorem dX2_playMinute_2 : decode cX2_playMinute 2 = .ok (.iload_n 3, 1) := by decide +kernel
theorem dX2_playMinute_3 : decode cX2_playMinute 3 = .ok (.aload_n 1, 1) := by decide +kernel
theorem dX2_playMinute_4 : decode cX2_playMinute 4 = .ok (.getfield 27, 3) := by decide +kernel
theorem dX2_playMinute_7 : decode cX2_playMinute 7 = .ok (.if_icmp .ge 46, 3) := by decide +kernel
theorem dX2_playMinute_10 : decode cX2_playMinute 10 = .ok (.aload_n 0, 1) := by decide +kernel
theorem dX2_playMinute_11 : decode cX2_playMinute 11 = .ok (.getfield 46, 3) := by decide +kernel
theorem dX2_playMinute_14 : decode cX2_playMinute 14 = .ok (.bipush (-4), 2) := by decide +kernel
theorem dX2_playMinute_16 : decode cX2_playMinute 16 = .ok (.if_icmp .ne 37, 3) := by decide +kernel
theorem dX2_playMinute_19 : decode cX2_playMinute 19 = .ok (.iload_n 2, 1) := by decide +kernel
theorem dX2_playMinute_20 : decode cX2_playMinute 20 = .ok (.aload_n 1, 1) := by decide +kernel
theorem dX2_playMinute_21 : decode cX2_playMinute 21 = .ok (.iload_n 3, 1) := by decide +kernel
theorem dX2_playMinute_22 : decode cX2_playMinute 22 = .ok (.iconst 2, 1) := by decide +kernel
theorem dX2_playMinute_23 : decode cX2_playMinute 23 = .ok (.invokevirtual 65, 3) := by decide +kernel
theorem dX2_playMinute_26 : decode cX2_playMinute 26 = .ok (.if_icmp .lt 21, 3) := by decide +kernel
theorem dX2_playMinute_29 : decode cX2_playMinute 29 = .ok (.aload_n 0, 1) := by decide +kernel
theorem dX2_playMinute_30 : decode cX2_playMinute 30 = .ok (.getfield 18, 3) := by decide +kernel
theorem dX2_playMinute_33 : decode cX2_playMinute 33 = .ok (.iload_n 3, 1) := by decide +kernel
theorem dX2_playMinute_34 : decode cX2_playMinute 34 = .ok (.iaload, 1) := by decide +kernel
theorem dX2_playMinute_35 : decode cX2_playMinute 35 = .ok (.bipush (-4), 2) := by decide +kernel
theorem dX2_playMinute_37 : decode cX2_playMinute 37 = .ok (.if_icmp .ne 10, 3) := by decide +kernel
theorem dX2_playMinute_40 : decode cX2_playMinute 40 = .ok (.aload_n 0, 1) := by decide +kernel
theorem dX2_playMinute_41 : decode cX2_playMinute 41 = .ok (.aload_n 1, 1) := by decide +kernel
theorem dX2_playMinute_42 : decode cX2_playMinute 42 = .ok (.iload_n 3, 1) := by decide +kernel
theorem dX2_playMinute_43 : decode cX2_playMinute 43 = .ok (.iload_n 2, 1) := by decide +kernel
theorem dX2_playMinute_44 : decode cX2_playMinute 44 = .ok (.invokevirtual 69, 3) := by decide +kernel
theorem dX2_playMinute_47 : decode cX2_playMinute 47 = .ok (.iinc 3 1, 3) := by decide +kernel
theorem dX2_playMinute_50 : decode cX2_playMinute 50 = .ok (.goto (-48), 3) := by decide +kernel
theorem dX2_playMinute_53 : decode cX2_playMinute 53 = .ok (.iconst 0, 1) := by decide +kernel
theorem dX2_playMinute_54 : decode cX2_playMinute 54 = .ok (.istore_n 3, 1) := by decide +kernel
theorem dX2_playMinute_55 : decode cX2_playMinute 55 = .ok (.iload_n 3, 1) := by decide +kernel
theorem dX2_playMinute_56 : decode cX2_playMinute 56 = .ok (.aload_n 1, 1) := by decide +kernel
theorem dX2_playMinute_57 : decode cX2_playMinute 57 = .ok (.getfield 27, 3) := by decide +kernel
theorem dX2_playMinute_60 : decode cX2_playMinute 60 = .ok (.if_icmp .ge 26, 3) := by decide +kernel
theorem dX2_playMinute_63 : decode cX2_playMinute 63 = .ok (.aload_n 0, 1) := by decide +kernel
theorem dX2_playMinute_64 : decode cX2_playMinute 64 = .ok (.getfield 21, 3) := by decide +kernel
theorem dX2_playMinute_67 : decode cX2_playMinute 67 = .ok (.iload_n 3, 1) := by decide +kernel
theorem dX2_playMinute_68 : decode cX2_playMinute 68 = .ok (.bipush 120, 2) := by decide +kernel
theorem dX2_playMinute_70 : decode cX2_playMinute 70 = .ok (.imul, 1) := by decide +kernel
theorem dX2_playMinute_71 : decode cX2_playMinute 71 = .ok (.iload_n 2, 1) := by decide +kernel
theorem dX2_playMinute_72 : decode cX2_playMinute 72 = .ok (.iadd, 1) := by decide +kernel
theorem dX2_playMinute_73 : decode cX2_playMinute 73 = .ok (.aload_n 0, 1) := by decide +kernel
theorem dX2_playMinute_74 : decode cX2_playMinute 74 = .ok (.getfield 9, 3) := by decide +kernel
theorem dX2_playMinute_77 : decode cX2_playMinute 77 = .ok (.iload_n 3, 1) := by decide +kernel
theorem dX2_playMinute_78 : decode cX2_playMinute 78 = .ok (.iaload, 1) := by decide +kernel
theorem dX2_playMinute_79 : decode cX2_playMinute 79 = .ok (.iastore, 1) := by decide +kernel
theorem dX2_playMinute_80 : decode cX2_playMinute 80 = .ok (.iinc 3 1, 3) := by decide +kernel
theorem dX2_playMinute_83 : decode cX2_playMinute 83 = .ok (.goto (-28), 3) := by decide +kernel
theorem dX2_playMinute_86 : decode cX2_playMinute 86 = .ok (.return_, 1) := by decide +kernel
theorem dX2_step_0 : decode cX2_step 0 = .ok (.aload_n 0, 1) := by decide +kernel
theorem dX2_step_1 : decode cX2_step 1 = .ok (.getfield 9, 3) := by decide +kernel
theorem dX2_step_4 : decode cX2_step 4 = .ok (.iload_n 2, 1) := by decide +kernel
theorem dX2_step_5 : decode cX2_step 5 = .ok (.iaload, 1) := by decide +kernel
theorem dX2_step_6 : decode cX2_step 6 = .ok (.aload_n 1, 1) := by decide +kernel
theorem dX2_step_7 : decode cX2_step 7 = .ok (.iload_n 2, 1) := by decide +kernel
theorem dX2_step_8 : decode cX2_step 8 = .ok (.invokevirtual 73, 3) := by decide +kernel
theorem dX2_step_11 : decode cX2_step 11 = .ok (.if_icmp .ne 29, 3) := by decide +kernel
theorem dX2_step_14 : decode cX2_step 14 = .ok (.aload_n 0, 1) := by decide +kernel
theorem dX2_step_15 : decode cX2_step 15 = .ok (.getfield 9, 3) := by decide +kernel
theorem dX2_step_18 : decode cX2_step 18 = .ok (.iload_n 2, 1) := by decide +kernel
theorem dX2_step_19 : decode cX2_step 19 = .ok (.bipush (-4), 2) := by decide +kernel
theorem dX2_step_21 : decode cX2_step 21 = .ok (.iastore, 1) := by decide +kernel
theorem dX2_step_22 : decode cX2_step 22 = .ok (.aload_n 0, 1) := by decide +kernel
theorem dX2_step_23 : decode cX2_step 23 = .ok (.getfield 18, 3) := by decide +kernel
theorem dX2_step_26 : decode cX2_step 26 = .ok (.iload_n 2, 1) := by decide +kernel
theorem dX2_step_27 : decode cX2_step 27 = .ok (.iload_n 3, 1) := by decide +kernel
theorem dX2_step_28 : decode cX2_step 28 = .ok (.iastore, 1) := by decide +kernel
theorem dX2_step_29 : decode cX2_step 29 = .ok (.aload_n 0, 1) := by decide +kernel
theorem dX2_step_30 : decode cX2_step 30 = .ok (.dup, 1) := by decide +kernel
theorem dX2_step_31 : decode cX2_step 31 = .ok (.getfield 33, 3) := by decide +kernel
theorem dX2_step_34 : decode cX2_step 34 = .ok (.iconst 1, 1) := by decide +kernel
theorem dX2_step_35 : decode cX2_step 35 = .ok (.iadd, 1) := by decide +kernel
theorem dX2_step_36 : decode cX2_step 36 = .ok (.putfield 33, 3) := by decide +kernel
theorem dX2_step_39 : decode cX2_step 39 = .ok (.return_, 1) := by decide +kernel
theorem dX2_step_40 : decode cX2_step 40 = .ok (.aload_n 1, 1) := by decide +kernel
theorem dX2_step_41 : decode cX2_step 41 = .ok (.iload_n 2, 1) := by decide +kernel
theorem dX2_step_42 : decode cX2_step 42 = .ok (.aload_n 0, 1) := by decide +kernel
theorem dX2_step_43 : decode cX2_step 43 = .ok (.getfield 9, 3) := by decide +kernel
theorem dX2_step_46 : decode cX2_step 46 = .ok (.iload_n 2, 1) := by decide +kernel
theorem dX2_step_47 : decode cX2_step 47 = .ok (.iaload, 1) := by decide +kernel
theorem dX2_step_48 : decode cX2_step 48 = .ok (.invokevirtual 77, 3) := by decide +kernel
theorem dX2_step_51 : decode cX2_step 51 = .ok (.istore 4, 2) := by decide +kernel
theorem dX2_step_53 : decode cX2_step 53 = .ok (.aload_n 0, 1) := by decide +kernel
theorem dX2_step_54 : decode cX2_step 54 = .ok (.getfield 15, 3) := by decide +kernel
theorem dX2_step_57 : decode cX2_step 57 = .ok (.iload_n 2, 1) := by decide +kernel
theorem dX2_step_58 : decode cX2_step 58 = .ok (.iaload, 1) := by decide +kernel
theorem dX2_step_59 : decode cX2_step 59 = .ok (.iconst (-1), 1) := by decide +kernel
theorem dX2_step_60 : decode cX2_step 60 = .ok (.if_icmp .ne 25, 3) := by decide +kernel
theorem dX2_step_63 : decode cX2_step 63 = .ok (.aload_n 0, 1) := by decide +kernel
theorem dX2_step_64 : decode cX2_step 64 = .ok (.getfield 15, 3) := by decide +kernel
theorem dX2_step_67 : decode cX2_step 67 = .ok (.iload_n 2, 1) := by decide +kernel
theorem dX2_step_68 : decode cX2_step 68 = .ok (.aload_n 1, 1) := by decide +kernel
theorem dX2_step_69 : decode cX2_step 69 = .ok (.iload_n 2, 1) := by decide +kernel
theorem dX2_step_70 : decode cX2_step 70 = .ok (.iconst 0, 1) := by decide +kernel
theorem dX2_step_71 : decode cX2_step 71 = .ok (.invokevirtual 65, 3) := by decide +kernel
theorem dX2_step_74 : decode cX2_step 74 = .ok (.aload_n 1, 1) := by decide +kernel
theorem dX2_step_75 : decode cX2_step 75 = .ok (.getfield 80, 3) := by decide +kernel
theorem dX2_step_78 : decode cX2_step 78 = .ok (.iload 4, 2) := by decide +kernel
theorem dX2_step_80 : decode cX2_step 80 = .ok (.iaload, 1) := by decide +kernel
theorem dX2_step_81 : decode cX2_step 81 = .ok (.invokestatic 83, 3) := by decide +kernel
theorem dX2_step_84 : decode cX2_step 84 = .ok (.iastore, 1) := by decide +kernel
theorem dX2_step_85 : decode cX2_step 85 = .ok (.aload_n 0, 1) := by decide +kernel
theorem dX2_step_86 : decode cX2_step 86 = .ok (.getfield 15, 3) := by decide +kernel
theorem dX2_step_89 : decode cX2_step 89 = .ok (.iload_n 2, 1) := by decide +kernel
theorem dX2_step_90 : decode cX2_step 90 = .ok (.iaload, 1) := by decide +kernel
theorem dX2_step_91 : decode cX2_step 91 = .ok (.ifCond .le 24, 3) := by decide +kernel
theorem dX2_step_94 : decode cX2_step 94 = .ok (.aload_n 0, 1) := by decide +kernel
theorem dX2_step_95 : decode cX2_step 95 = .ok (.getfield 15, 3) := by decide +kernel
theorem dX2_step_98 : decode cX2_step 98 = .ok (.iload_n 2, 1) := by decide +kernel
theorem dX2_step_99 : decode cX2_step 99 = .ok (.dup2, 1) := by decide +kernel
theorem dX2_step_100 : decode cX2_step 100 = .ok (.iaload, 1) := by decide +kernel
theorem dX2_step_101 : decode cX2_step 101 = .ok (.iconst 1, 1) := by decide +kernel
theorem dX2_step_102 : decode cX2_step 102 = .ok (.isub, 1) := by decide +kernel
theorem dX2_step_103 : decode cX2_step 103 = .ok (.iastore, 1) := by decide +kernel
theorem dX2_step_104 : decode cX2_step 104 = .ok (.aload_n 0, 1) := by decide +kernel
theorem dX2_step_105 : decode cX2_step 105 = .ok (.dup, 1) := by decide +kernel
theorem dX2_step_106 : decode cX2_step 106 = .ok (.getfield 59, 3) := by decide +kernel
theorem dX2_step_109 : decode cX2_step 109 = .ok (.iconst 1, 1) := by decide +kernel
theorem dX2_step_110 : decode cX2_step 110 = .ok (.iadd, 1) := by decide +kernel
theorem dX2_step_111 : decode cX2_step 111 = .ok (.putfield 59, 3) := by decide +kernel
theorem dX2_step_114 : decode cX2_step 114 = .ok (.return_, 1) := by decide +kernel
theorem dX2_step_115 : decode cX2_step 115 = .ok (.aload_n 0, 1) := by decide +kernel
theorem dX2_step_116 : decode cX2_step 116 = .ok (.aload_n 1, 1) := by decide +kernel
theorem dX2_step_117 : decode cX2_step 117 = .ok (.iload_n 2, 1) := by decide +kernel
theorem dX2_step_118 : decode cX2_step 118 = .ok (.iload 4, 2) := by decide +kernel
theorem dX2_step_120 : decode cX2_step 120 = .ok (.iload_n 3, 1) := by decide +kernel
theorem dX2_step_121 : decode cX2_step 121 = .ok (.invokevirtual 86, 3) := by decide +kernel
theorem dX2_step_124 : decode cX2_step 124 = .ok (.return_, 1) := by decide +kernel
theorem dX2_enter_0 : decode cX2_enter 0 = .ok (.aload_n 0, 1) := by decide +kernel
theorem dX2_enter_1 : decode cX2_enter 1 = .ok (.iload_n 3, 1) := by decide +kernel
theorem dX2_enter_2 : decode cX2_enter 2 = .ok (.aload_n 1, 1) := by decide +kernel
theorem dX2_enter_3 : decode cX2_enter 3 = .ok (.getfield 27, 3) := by decide +kernel
theorem dX2_enter_6 : decode cX2_enter 6 = .ok (.invokevirtual 90, 3) := by decide +kernel
theorem dX2_enter_9 : decode cX2_enter 9 = .ok (.istore 5, 2) := by decide +kernel
theorem dX2_enter_11 : decode cX2_enter 11 = .ok (.iload 5, 2) := by decide +kernel
theorem dX2_enter_13 : decode cX2_enter 13 = .ok (.bipush (-4), 2) := by decide +kernel
theorem dX2_enter_15 : decode cX2_enter 15 = .ok (.if_icmp .ne 32, 3) := by decide +kernel
theorem dX2_enter_18 : decode cX2_enter 18 = .ok (.aload_n 0, 1) := by decide +kernel
theorem dX2_enter_19 : decode cX2_enter 19 = .ok (.getfield 9, 3) := by decide +kernel
theorem dX2_enter_22 : decode cX2_enter 22 = .ok (.iload_n 2, 1) := by decide +kernel
theorem dX2_enter_23 : decode cX2_enter 23 = .ok (.iload_n 3, 1) := by decide +kernel
theorem dX2_enter_24 : decode cX2_enter 24 = .ok (.iastore, 1) := by decide +kernel
theorem dX2_enter_25 : decode cX2_enter 25 = .ok (.aload_n 0, 1) := by decide +kernel
theorem dX2_enter_26 : decode cX2_enter 26 = .ok (.getfield 15, 3) := by decide +kernel
theorem dX2_enter_29 : decode cX2_enter 29 = .ok (.iload_n 2, 1) := by decide +kernel
theorem dX2_enter_30 : decode cX2_enter 30 = .ok (.iconst (-1), 1) := by decide +kernel
theorem dX2_enter_31 : decode cX2_enter 31 = .ok (.iastore, 1) := by decide +kernel
theorem dX2_enter_32 : decode cX2_enter 32 = .ok (.aload_n 0, 1) := by decide +kernel
theorem dX2_enter_33 : decode cX2_enter 33 = .ok (.dup, 1) := by decide +kernel
theorem dX2_enter_34 : decode cX2_enter 34 = .ok (.getfield 62, 3) := by decide +kernel
theorem dX2_enter_37 : decode cX2_enter 37 = .ok (.iconst 1, 1) := by decide +kernel
theorem dX2_enter_38 : decode cX2_enter 38 = .ok (.iload_n 3, 1) := by decide +kernel
theorem dX2_enter_39 : decode cX2_enter 39 = .ok (.ishl, 1) := by decide +kernel
theorem dX2_enter_40 : decode cX2_enter 40 = .ok (.ior, 1) := by decide +kernel
theorem dX2_enter_41 : decode cX2_enter 41 = .ok (.putfield 62, 3) := by decide +kernel
theorem dX2_enter_44 : decode cX2_enter 44 = .ok (.goto 46, 3) := by decide +kernel
theorem dX2_enter_47 : decode cX2_enter 47 = .ok (.aload_n 1, 1) := by decide +kernel
theorem dX2_enter_48 : decode cX2_enter 48 = .ok (.iload_n 3, 1) := by decide +kernel
theorem dX2_enter_49 : decode cX2_enter 49 = .ok (.invokevirtual 93, 3) := by decide +kernel
theorem dX2_enter_52 : decode cX2_enter 52 = .ok (.ifCond .eq 16, 3) := by decide +kernel
theorem dX2_enter_55 : decode cX2_enter 55 = .ok (.aload_n 0, 1) := by decide +kernel
theorem dX2_enter_56 : decode cX2_enter 56 = .ok (.dup, 1) := by decide +kernel
theorem dX2_enter_57 : decode cX2_enter 57 = .ok (.getfield 36, 3) := by decide +kernel
theorem dX2_enter_60 : decode cX2_enter 60 = .ok (.iconst 1, 1) := by decide +kernel
theorem dX2_enter_61 : decode cX2_enter 61 = .ok (.iadd, 1) := by decide +kernel
theorem dX2_enter_62 : decode cX2_enter 62 = .ok (.putfield 36, 3) := by decide +kernel
theorem dX2_enter_65 : decode cX2_enter 65 = .ok (.goto 25, 3) := by decide +kernel
theorem dX2_enter_68 : decode cX2_enter 68 = .ok (.aload_n 0, 1) := by decide +kernel
theorem dX2_enter_69 : decode cX2_enter 69 = .ok (.iload 4, 2) := by decide +kernel
theorem dX2_enter_71 : decode cX2_enter 71 = .ok (.putfield 46, 3) := by decide +kernel
theorem dX2_enter_74 : decode cX2_enter 74 = .ok (.aload_n 0, 1) := by decide +kernel
theorem dX2_enter_75 : decode cX2_enter 75 = .ok (.iload_n 3, 1) := by decide +kernel
theorem dX2_enter_76 : decode cX2_enter 76 = .ok (.putfield 97, 3) := by decide +kernel
theorem dX2_enter_79 : decode cX2_enter 79 = .ok (.aload_n 0, 1) := by decide +kernel
theorem dX2_enter_80 : decode cX2_enter 80 = .ok (.bipush 10, 2) := by decide +kernel
theorem dX2_enter_82 : decode cX2_enter 82 = .ok (.iload_n 2, 1) := by decide +kernel
theorem dX2_enter_83 : decode cX2_enter 83 = .ok (.imul, 1) := by decide +kernel
theorem dX2_enter_84 : decode cX2_enter 84 = .ok (.iload 5, 2) := by decide +kernel
theorem dX2_enter_86 : decode cX2_enter 86 = .ok (.iadd, 1) := by decide +kernel
theorem dX2_enter_87 : decode cX2_enter 87 = .ok (.putfield 100, 3) := by decide +kernel
theorem dX2_enter_90 : decode cX2_enter 90 = .ok (.return_, 1) := by decide +kernel
theorem dX2_trainIn_0 : decode cX2_trainIn 0 = .ok (.iconst 0, 1) := by decide +kernel
theorem dX2_trainIn_1 : decode cX2_trainIn 1 = .ok (.istore_n 3, 1) := by decide +kernel
theorem dX2_trainIn_2 : decode cX2_trainIn 2 = .ok (.iload_n 3, 1) := by decide +kernel
theorem dX2_trainIn_3 : decode cX2_trainIn 3 = .ok (.iload_n 2, 1) := by decide +kernel
theorem dX2_trainIn_4 : decode cX2_trainIn 4 = .ok (.if_icmp .ge 21, 3) := by decide +kernel
theorem dX2_trainIn_7 : decode cX2_trainIn 7 = .ok (.aload_n 0, 1) := by decide +kernel
theorem dX2_trainIn_8 : decode cX2_trainIn 8 = .ok (.getfield 9, 3) := by decide +kernel
theorem dX2_trainIn_11 : decode cX2_trainIn 11 = .ok (.iload_n 3, 1) := by decide +kernel
theorem dX2_trainIn_12 : decode cX2_trainIn 12 = .ok (.iaload, 1) := by decide +kernel
theorem dX2_trainIn_13 : decode cX2_trainIn 13 = .ok (.iload_n 1, 1) := by decide +kernel
theorem dX2_trainIn_14 : decode cX2_trainIn 14 = .ok (.if_icmp .ne 5, 3) := by decide +kernel
theorem dX2_trainIn_17 : decode cX2_trainIn 17 = .ok (.iload_n 3, 1) := by decide +kernel
theorem dX2_trainIn_18 : decode cX2_trainIn 18 = .ok (.ireturn, 1) := by decide +kernel
theorem dX2_trainIn_19 : decode cX2_trainIn 19 = .ok (.iinc 3 1, 3) := by decide +kernel
theorem dX2_trainIn_22 : decode cX2_trainIn 22 = .ok (.goto (-20), 3) := by decide +kernel
theorem dX2_trainIn_25 : decode cX2_trainIn 25 = .ok (.bipush (-4), 2) := by decide +kernel
theorem dX2_trainIn_27 : decode cX2_trainIn 27 = .ok (.ireturn, 1) := by decide +kernel
theorem dX2_countCost_0 : decode cX2_countCost 0 = .ok (.aload_n 0, 1) := by decide +kernel
theorem dX2_countCost_1 : decode cX2_countCost 1 = .ok (.iconst 0, 1) := by decide +kernel
theorem dX2_countCost_2 : decode cX2_countCost 2 = .ok (.putfield 103, 3) := by decide +kernel
theorem dX2_countCost_5 : decode cX2_countCost 5 = .ok (.iconst 0, 1) := by decide +kernel
theorem dX2_countCost_6 : decode cX2_countCost 6 = .ok (.istore_n 2, 1) := by decide +kernel
theorem dX2_countCost_7 : decode cX2_countCost 7 = .ok (.iload_n 2, 1) := by decide +kernel
theorem dX2_countCost_8 : decode cX2_countCost 8 = .ok (.aload_n 1, 1) := by decide +kernel
theorem dX2_countCost_9 : decode cX2_countCost 9 = .ok (.getfield 27, 3) := by decide +kernel
theorem dX2_countCost_12 : decode cX2_countCost 12 = .ok (.if_icmp .ge 49, 3) := by decide +kernel
theorem dX2_countCost_15 : decode cX2_countCost 15 = .ok (.aload_n 0, 1) := by decide +kernel
theorem dX2_countCost_16 : decode cX2_countCost 16 = .ok (.getfield 18, 3) := by decide +kernel
theorem dX2_countCost_19 : decode cX2_countCost 19 = .ok (.iload_n 2, 1) := by decide +kernel
theorem dX2_countCost_20 : decode cX2_countCost 20 = .ok (.iaload, 1) := by decide +kernel
theorem dX2_countCost_21 : decode cX2_countCost 21 = .ok (.bipush (-4), 2) := by decide +kernel
theorem dX2_countCost_23 : decode cX2_countCost 23 = .ok (.if_icmp .ne 8, 3) := by decide +kernel
theorem dX2_countCost_26 : decode cX2_countCost 26 = .ok (.bipush 120, 2) := by decide +kernel
theorem dX2_countCost_28 : decode cX2_countCost 28 = .ok (.goto 9, 3) := by decide +kernel
theorem dX2_countCost_31 : decode cX2_countCost 31 = .ok (.aload_n 0, 1) := by decide +kernel
theorem dX2_countCost_32 : decode cX2_countCost 32 = .ok (.getfield 18, 3) := by decide +kernel
theorem dX2_countCost_35 : decode cX2_countCost 35 = .ok (.iload_n 2, 1) := by decide +kernel
theorem dX2_countCost_36 : decode cX2_countCost 36 = .ok (.iaload, 1) := by decide +kernel
theorem dX2_countCost_37 : decode cX2_countCost 37 = .ok (.istore_n 3, 1) := by decide +kernel
theorem dX2_countCost_38 : decode cX2_countCost 38 = .ok (.aload_n 0, 1) := by decide +kernel
theorem dX2_countCost_39 : decode cX2_countCost 39 = .ok (.dup, 1) := by decide +kernel
theorem dX2_countCost_40 : decode cX2_countCost 40 = .ok (.getfield 103, 3) := by decide +kernel
theorem dX2_countCost_43 : decode cX2_countCost 43 = .ok (.iload_n 3, 1) := by decide +kernel
theorem dX2_countCost_44 : decode cX2_countCost 44 = .ok (.aload_n 1, 1) := by decide +kernel
theorem dX2_countCost_45 : decode cX2_countCost 45 = .ok (.iload_n 2, 1) := by decide +kernel
theorem dX2_countCost_46 : decode cX2_countCost 46 = .ok (.iconst 3, 1) := by decide +kernel
theorem dX2_countCost_47 : decode cX2_countCost 47 = .ok (.invokevirtual 65, 3) := by decide +kernel
theorem dX2_countCost_50 : decode cX2_countCost 50 = .ok (.imul, 1) := by decide +kernel
theorem dX2_countCost_51 : decode cX2_countCost 51 = .ok (.iadd, 1) := by decide +kernel
theorem dX2_countCost_52 : decode cX2_countCost 52 = .ok (.putfield 103, 3) := by decide +kernel
theorem dX2_countCost_55 : decode cX2_countCost 55 = .ok (.iinc 2 1, 3) := by decide +kernel
theorem dX2_countCost_58 : decode cX2_countCost 58 = .ok (.goto (-51), 3) := by decide +kernel
theorem dX2_countCost_61 : decode cX2_countCost 61 = .ok (.return_, 1) := by decide +kernel
theorem dX2_spotBehind_0 : decode cX2_spotBehind 0 = .ok (.aload_n 0, 1) := by decide +kernel
theorem dX2_spotBehind_1 : decode cX2_spotBehind 1 = .ok (.getfield 21, 3) := by decide +kernel
theorem dX2_spotBehind_4 : decode cX2_spotBehind 4 = .ok (.iload_n 1, 1) := by decide +kernel
theorem dX2_spotBehind_5 : decode cX2_spotBehind 5 = .ok (.bipush 120, 2) := by decide +kernel
theorem dX2_spotBehind_7 : decode cX2_spotBehind 7 = .ok (.imul, 1) := by decide +kernel
theorem dX2_spotBehind_8 : decode cX2_spotBehind 8 = .ok (.iload_n 2, 1) := by decide +kernel
theorem dX2_spotBehind_9 : decode cX2_spotBehind 9 = .ok (.aload_n 0, 1) := by decide +kernel
theorem dX2_spotBehind_10 : decode cX2_spotBehind 10 = .ok (.getfield 43, 3) := by decide +kernel
theorem dX2_spotBehind_13 : decode cX2_spotBehind 13 = .ok (.invokestatic 106, 3) := by decide +kernel
theorem dX2_spotBehind_16 : decode cX2_spotBehind 16 = .ok (.iadd, 1) := by decide +kernel
theorem dX2_spotBehind_17 : decode cX2_spotBehind 17 = .ok (.iaload, 1) := by decide +kernel
theorem dX2_spotBehind_18 : decode cX2_spotBehind 18 = .ok (.ireturn, 1) := by decide +kernel
theorem dX3_init_0 : decode cX3_init 0 = .ok (.aload_n 0, 1) := by decide +kernel
theorem dX3_init_1 : decode cX3_init 1 = .ok (.invokespecial 3, 3) := by decide +kernel
theorem dX3_init_4 : decode cX3_init 4 = .ok (.aload_n 0, 1) := by decide +kernel
theorem dX3_init_5 : decode cX3_init 5 = .ok (.bipush 40, 2) := by decide +kernel
theorem dX3_init_7 : decode cX3_init 7 = .ok (.newarray .int, 2) := by decide +kernel
theorem dX3_init_9 : decode cX3_init 9 = .ok (.putfield 9, 3) := by decide +kernel
theorem dX3_init_12 : decode cX3_init 12 = .ok (.aload_n 0, 1) := by decide +kernel
theorem dX3_init_13 : decode cX3_init 13 = .ok (.iconst (-1), 1) := by decide +kernel
theorem dX3_init_14 : decode cX3_init 14 = .ok (.putfield 15, 3) := by decide +kernel
theorem dX3_init_17 : decode cX3_init 17 = .ok (.return_, 1) := by decide +kernel
theorem dX3_isNothing_0 : decode cX3_isNothing 0 = .ok (.aload_n 0, 1) := by decide +kernel
theorem dX3_isNothing_1 : decode cX3_isNothing 1 = .ok (.getfield 15, 3) := by decide +kernel
theorem dX3_isNothing_4 : decode cX3_isNothing 4 = .ok (.iconst (-1), 1) := by decide +kernel
theorem dX3_isNothing_5 : decode cX3_isNothing 5 = .ok (.if_icmp .ne 7, 3) := by decide +kernel
theorem dX3_isNothing_8 : decode cX3_isNothing 8 = .ok (.iconst 1, 1) := by decide +kernel
theorem dX3_isNothing_9 : decode cX3_isNothing 9 = .ok (.goto 4, 3) := by decide +kernel
theorem dX3_isNothing_12 : decode cX3_isNothing 12 = .ok (.iconst 0, 1) := by decide +kernel
theorem dX3_isNothing_13 : decode cX3_isNothing 13 = .ok (.ireturn, 1) := by decide +kernel
theorem dX3_renew_0 : decode cX3_renew 0 = .ok (.aload_n 0, 1) := by decide +kernel
theorem dX3_renew_1 : decode cX3_renew 1 = .ok (.iload_n 1, 1) := by decide +kernel
theorem dX3_renew_2 : decode cX3_renew 2 = .ok (.putfield 19, 3) := by decide +kernel
theorem dX3_renew_5 : decode cX3_renew 5 = .ok (.aload_n 0, 1) := by decide +kernel
theorem dX3_renew_6 : decode cX3_renew 6 = .ok (.iload_n 2, 1) := by decide +kernel
theorem dX3_renew_7 : decode cX3_renew 7 = .ok (.putfield 15, 3) := by decide +kernel
theorem dX3_renew_10 : decode cX3_renew 10 = .ok (.aload_n 0, 1) := by decide +kernel
theorem dX3_renew_11 : decode cX3_renew 11 = .ok (.getfield 9, 3) := by decide +kernel
theorem dX3_renew_14 : decode cX3_renew 14 = .ok (.iconst 0, 1) := by decide +kernel
theorem dX3_renew_15 : decode cX3_renew 15 = .ok (.invokestatic 22, 3) := by decide +kernel
theorem dX3_renew_18 : decode cX3_renew 18 = .ok (.return_, 1) := by decide +kernel
theorem dX3_faultAt_0 : decode cX3_faultAt 0 = .ok (.aload_n 0, 1) := by decide +kernel
theorem dX3_faultAt_1 : decode cX3_faultAt 1 = .ok (.invokevirtual 28, 3) := by decide +kernel
theorem dX3_faultAt_4 : decode cX3_faultAt 4 = .ok (.ifCond .eq 5, 3) := by decide +kernel
theorem dX3_faultAt_7 : decode cX3_faultAt 7 = .ok (.iconst 1, 1) := by decide +kernel
theorem dX3_faultAt_8 : decode cX3_faultAt 8 = .ok (.ireturn, 1) := by decide +kernel
theorem dX3_faultAt_9 : decode cX3_faultAt 9 = .ok (.iload_n 1, 1) := by decide +kernel
theorem dX3_faultAt_10 : decode cX3_faultAt 10 = .ok (.aload_n 0, 1) := by decide +kernel
theorem dX3_faultAt_11 : decode cX3_faultAt 11 = .ok (.getfield 19, 3) := by decide +kernel
theorem dX3_faultAt_14 : decode cX3_faultAt 14 = .ok (.if_icmp .eq 5, 3) := by decide +kernel
theorem dX3_faultAt_17 : decode cX3_faultAt 17 = .ok (.iconst 3, 1) := by decide +kernel
theorem dX3_faultAt_18 : decode cX3_faultAt 18 = .ok (.ireturn, 1) := by decide +kernel
theorem dX3_faultAt_19 : decode cX3_faultAt 19 = .ok (.iload_n 2, 1) := by decide +kernel
theorem dX3_faultAt_20 : decode cX3_faultAt 20 = .ok (.ifCond .lt 11, 3) := by decide +kernel
theorem dX3_faultAt_23 : decode cX3_faultAt 23 = .ok (.iload_n 2, 1) := by decide +kernel
theorem dX3_faultAt_24 : decode cX3_faultAt 24 = .ok (.aload_n 0, 1) := by decide +kernel
theorem dX3_faultAt_25 : decode cX3_faultAt 25 = .ok (.getfield 15, 3) := by decide +kernel
theorem dX3_faultAt_28 : decode cX3_faultAt 28 = .ok (.if_icmp .lt 7, 3) := by decide +kernel
theorem dX3_faultAt_31 : decode cX3_faultAt 31 = .ok (.iconst 2, 1) := by decide +kernel
theorem dX3_faultAt_32 : decode cX3_faultAt 32 = .ok (.goto 4, 3) := by decide +kernel
theorem dX3_faultAt_35 : decode cX3_faultAt 35 = .ok (.iconst 0, 1) := by decide +kernel
theorem dX3_faultAt_36 : decode cX3_faultAt 36 = .ok (.ireturn, 1) := by decide +kernel
theorem dX3_faultOfPair_0 : decode cX3_faultOfPair 0 = .ok (.aload_n 0, 1) := by decide +kernel
theorem dX3_faultOfPair_1 : decode cX3_faultOfPair 1 = .ok (.iload_n 1, 1) := by decide +kernel
theorem dX3_faultOfPair_2 : decode cX3_faultOfPair 2 = .ok (.iload_n 2, 1) := by decide +kernel
theorem dX3_faultOfPair_3 : decode cX3_faultOfPair 3 = .ok (.invokevirtual 32, 3) := by decide +kernel
theorem dX3_faultOfPair_6 : decode cX3_faultOfPair 6 = .ok (.istore_n 3, 1) := by decide +kernel
theorem dX3_faultOfPair_7 : decode cX3_faultOfPair 7 = .ok (.iload_n 3, 1) := by decide +kernel
theorem dX3_faultOfPair_8 : decode cX3_faultOfPair 8 = .ok (.ifCond .eq 7, 3) := by decide +kernel
theorem dX3_faultOfPair_11 : decode cX3_faultOfPair 11 = .ok (.iload_n 3, 1) := by decide +kernel
theorem dX3_faultOfPair_12 : decode cX3_faultOfPair 12 = .ok (.goto 11, 3) := by decide +kernel
theorem dX3_faultOfPair_15 : decode cX3_faultOfPair 15 = .ok (.aload_n 0, 1) := by decide +kernel
theorem dX3_faultOfPair_16 : decode cX3_faultOfPair 16 = .ok (.iload_n 1, 1) := by decide +kernel
theorem dX3_faultOfPair_17 : decode cX3_faultOfPair 17 = .ok (.iload_n 2, 1) := by decide +kernel
theorem dX3_faultOfPair_18 : decode cX3_faultOfPair 18 = .ok (.iconst 1, 1) := by decide +kernel
theorem dX3_faultOfPair_19 : decode cX3_faultOfPair 19 = .ok (.iadd, 1) := by decide +kernel
theorem dX3_faultOfPair_20 : decode cX3_faultOfPair 20 = .ok (.invokevirtual 32, 3) := by decide +kernel
theorem dX3_faultOfPair_23 : decode cX3_faultOfPair 23 = .ok (.ireturn, 1) := by decide +kernel
theorem dX3_put_0 : decode cX3_put 0 = .ok (.aload_n 0, 1) := by decide +kernel
theorem dX3_put_1 : decode cX3_put 1 = .ok (.getfield 19, 3) := by decide +kernel
theorem dX3_put_4 : decode cX3_put 4 = .ok (.ifCond .ne 14, 3) := by decide +kernel
theorem dX3_put_7 : decode cX3_put 7 = .ok (.aload_n 0, 1) := by decide +kernel
theorem dX3_put_8 : decode cX3_put 8 = .ok (.getfield 9, 3) := by decide +kernel
theorem dX3_put_11 : decode cX3_put 11 = .ok (.iload_n 1, 1) := by decide +kernel
theorem dX3_put_12 : decode cX3_put 12 = .ok (.iload_n 2, 1) := by decide +kernel
theorem dX3_put_13 : decode cX3_put 13 = .ok (.i2b, 1) := by decide +kernel
theorem dX3_put_14 : decode cX3_put 14 = .ok (.iastore, 1) := by decide +kernel
theorem dX3_put_15 : decode cX3_put 15 = .ok (.goto 29, 3) := by decide +kernel
theorem dX3_put_18 : decode cX3_put 18 = .ok (.aload_n 0, 1) := by decide +kernel
theorem dX3_put_19 : decode cX3_put 19 = .ok (.getfield 19, 3) := by decide +kernel
theorem dX3_put_22 : decode cX3_put 22 = .ok (.iconst 1, 1) := by decide +kernel
theorem dX3_put_23 : decode cX3_put 23 = .ok (.if_icmp .ne 14, 3) := by decide +kernel
theorem dX3_put_26 : decode cX3_put 26 = .ok (.aload_n 0, 1) := by decide +kernel
theorem dX3_put_27 : decode cX3_put 27 = .ok (.getfield 9, 3) := by decide +kernel
theorem dX3_put_30 : decode cX3_put 30 = .ok (.iload_n 1, 1) := by decide +kernel
theorem dX3_put_31 : decode cX3_put 31 = .ok (.iload_n 2, 1) := by decide +kernel
theorem dX3_put_32 : decode cX3_put 32 = .ok (.i2s, 1) := by decide +kernel
theorem dX3_put_33 : decode cX3_put 33 = .ok (.iastore, 1) := by decide +kernel
theorem dX3_put_34 : decode cX3_put 34 = .ok (.goto 10, 3) := by decide +kernel
theorem dX3_put_37 : decode cX3_put 37 = .ok (.aload_n 0, 1) := by decide +kernel
theorem dX3_put_38 : decode cX3_put 38 = .ok (.getfield 9, 3) := by decide +kernel
theorem dX3_put_41 : decode cX3_put 41 = .ok (.iload_n 1, 1) := by decide +kernel
theorem dX3_put_42 : decode cX3_put 42 = .ok (.iload_n 2, 1) := by decide +kernel
theorem dX3_put_43 : decode cX3_put 43 = .ok (.iastore, 1) := by decide +kernel
theorem dX3_put_44 : decode cX3_put 44 = .ok (.return_, 1) := by decide +kernel
theorem dX4_init_0 : decode cX4_init 0 = .ok (.aload_n 0, 1) := by decide +kernel
theorem dX4_init_1 : decode cX4_init 1 = .ok (.invokespecial 3, 3) := by decide +kernel
theorem dX4_init_4 : decode cX4_init 4 = .ok (.aload_n 0, 1) := by decide +kernel
theorem dX4_init_5 : decode cX4_init 5 = .ok (.bipush 6, 2) := by decide +kernel
theorem dX4_init_7 : decode cX4_init 7 = .ok (.newarray .int, 2) := by decide +kernel
theorem dX4_init_9 : decode cX4_init 9 = .ok (.putfield 9, 3) := by decide +kernel
theorem dX4_init_12 : decode cX4_init 12 = .ok (.aload_n 0, 1) := by decide +kernel
theorem dX4_init_13 : decode cX4_init 13 = .ok (.bipush 6, 2) := by decide +kernel
theorem dX4_init_15 : decode cX4_init 15 = .ok (.newarray .int, 2) := by decide +kernel
theorem dX4_init_17 : decode cX4_init 17 = .ok (.putfield 15, 3) := by decide +kernel
theorem dX4_init_20 : decode cX4_init 20 = .ok (.aload_n 0, 1) := by decide +kernel
theorem dX4_init_21 : decode cX4_init 21 = .ok (.bipush 6, 2) := by decide +kernel
theorem dX4_init_23 : decode cX4_init 23 = .ok (.newarray .int, 2) := by decide +kernel
theorem dX4_init_25 : decode cX4_init 25 = .ok (.putfield 18, 3) := by decide +kernel
theorem dX4_init_28 : decode cX4_init 28 = .ok (.aload_n 0, 1) := by decide +kernel
theorem dX4_init_29 : decode cX4_init 29 = .ok (.sipush 480, 3) := by decide +kernel
theorem dX4_init_32 : decode cX4_init 32 = .ok (.newarray .int, 2) := by decide +kernel
theorem dX4_init_34 : decode cX4_init 34 = .ok (.putfield 21, 3) := by decide +kernel
theorem dX4_init_37 : decode cX4_init 37 = .ok (.aload_n 0, 1) := by decide +kernel
theorem dX4_init_38 : decode cX4_init 38 = .ok (.aload_n 1, 1) := by decide +kernel
theorem dX4_init_39 : decode cX4_init 39 = .ok (.putfield 24, 3) := by decide +kernel
theorem dX4_init_42 : decode cX4_init 42 = .ok (.aload_n 0, 1) := by decide +kernel
theorem dX4_init_43 : decode cX4_init 43 = .ok (.aload_n 2, 1) := by decide +kernel
theorem dX4_init_44 : decode cX4_init 44 = .ok (.putfield 28, 3) := by decide +kernel
theorem dX4_init_47 : decode cX4_init 47 = .ok (.return_, 1) := by decide +kernel
theorem dX4_append_0 : decode cX4_append 0 = .ok (.aload_n 0, 1) := by decide +kernel
theorem dX4_append_1 : decode cX4_append 1 = .ok (.getfield 32, 3) := by decide +kernel
theorem dX4_append_4 : decode cX4_append 4 = .ok (.bipush 6, 2) := by decide +kernel
theorem dX4_append_6 : decode cX4_append 6 = .ok (.if_icmp .lt 5, 3) := by decide +kernel
theorem dX4_append_9 : decode cX4_append 9 = .ok (.iconst 0, 1) := by decide +kernel
theorem dX4_append_10 : decode cX4_append 10 = .ok (.ireturn, 1) := by decide +kernel
theorem dX4_append_11 : decode cX4_append 11 = .ok (.aload_n 0, 1) := by decide +kernel
theorem dX4_append_12 : decode cX4_append 12 = .ok (.getfield 9, 3) := by decide +kernel
theorem dX4_append_15 : decode cX4_append 15 = .ok (.aload_n 0, 1) := by decide +kernel
theorem dX4_append_16 : decode cX4_append 16 = .ok (.getfield 32, 3) := by decide +kernel
theorem dX4_append_19 : decode cX4_append 19 = .ok (.iload_n 1, 1) := by decide +kernel
theorem dX4_append_20 : decode cX4_append 20 = .ok (.iastore, 1) := by decide +kernel
theorem dX4_append_21 : decode cX4_append 21 = .ok (.aload_n 0, 1) := by decide +kernel
theorem dX4_append_22 : decode cX4_append 22 = .ok (.getfield 15, 3) := by decide +kernel
theorem dX4_append_25 : decode cX4_append 25 = .ok (.aload_n 0, 1) := by decide +kernel
theorem dX4_append_26 : decode cX4_append 26 = .ok (.getfield 32, 3) := by decide +kernel
theorem dX4_append_29 : decode cX4_append 29 = .ok (.iload_n 2, 1) := by decide +kernel
theorem dX4_append_30 : decode cX4_append 30 = .ok (.iastore, 1) := by decide +kernel
theorem dX4_append_31 : decode cX4_append 31 = .ok (.aload_n 0, 1) := by decide +kernel
theorem dX4_append_32 : decode cX4_append 32 = .ok (.getfield 18, 3) := by decide +kernel
theorem dX4_append_35 : decode cX4_append 35 = .ok (.aload_n 0, 1) := by decide +kernel
theorem dX4_append_36 : decode cX4_append 36 = .ok (.getfield 32, 3) := by decide +kernel
theorem dX4_append_39 : decode cX4_append 39 = .ok (.iload_n 3, 1) := by decide +kernel
theorem dX4_append_40 : decode cX4_append 40 = .ok (.iastore, 1) := by decide +kernel
theorem dX4_append_41 : decode cX4_append 41 = .ok (.aload_n 0, 1) := by decide +kernel
theorem dX4_append_42 : decode cX4_append 42 = .ok (.dup, 1) := by decide +kernel
theorem dX4_append_43 : decode cX4_append 43 = .ok (.getfield 32, 3) := by decide +kernel
theorem dX4_append_46 : decode cX4_append 46 = .ok (.iconst 1, 1) := by decide +kernel
theorem dX4_append_47 : decode cX4_append 47 = .ok (.iadd, 1) := by decide +kernel
theorem dX4_append_48 : decode cX4_append 48 = .ok (.putfield 32, 3) := by decide +kernel
theorem dX4_append_51 : decode cX4_append 51 = .ok (.iconst 1, 1) := by decide +kernel
theorem dX4_append_52 : decode cX4_append 52 = .ok (.ireturn, 1) := by decide +kernel
theorem dX4_fittingFaiths_0 : decode cX4_fittingFaiths 0 = .ok (.aload_n 0, 1) := by decide +kernel
theorem dX4_fittingFaiths_1 : decode cX4_fittingFaiths 1 = .ok (.getfield 24, 3) := by decide +kernel
theorem dX4_fittingFaiths_4 : decode cX4_fittingFaiths 4 = .ok (.aload_n 1, 1) := by decide +kernel
theorem dX4_fittingFaiths_5 : decode cX4_fittingFaiths 5 = .ok (.invokevirtual 36, 3) := by decide +kernel
theorem dX4_fittingFaiths_8 : decode cX4_fittingFaiths 8 = .ok (.iconst 0, 1) := by decide +kernel
theorem dX4_fittingFaiths_9 : decode cX4_fittingFaiths 9 = .ok (.istore_n 3, 1) := by decide +kernel
theorem dX4_fittingFaiths_10 : decode cX4_fittingFaiths 10 = .ok (.iconst 0, 1) := by decide +kernel
theorem dX4_fittingFaiths_11 : decode cX4_fittingFaiths 11 = .ok (.istore 4, 2) := by decide +kernel
theorem dX4_fittingFaiths_13 : decode cX4_fittingFaiths 13 = .ok (.iload 4, 2) := by decide +kernel
theorem dX4_fittingFaiths_15 : decode cX4_fittingFaiths 15 = .ok (.iconst 4, 1) := by decide +kernel
theorem dX4_fittingFaiths_16 : decode cX4_fittingFaiths 16 = .ok (.if_icmp .ge 85, 3) := by decide +kernel
theorem dX4_fittingFaiths_19 : decode cX4_fittingFaiths 19 = .ok (.aload_n 0, 1) := by decide +kernel
theorem dX4_fittingFaiths_20 : decode cX4_fittingFaiths 20 = .ok (.getfield 24, 3) := by decide +kernel
theorem dX4_fittingFaiths_23 : decode cX4_fittingFaiths 23 = .ok (.iload_n 2, 1) := by decide +kernel
theorem dX4_fittingFaiths_24 : decode cX4_fittingFaiths 24 = .ok (.iconst 0, 1) := by decide +kernel
theorem dX4_fittingFaiths_25 : decode cX4_fittingFaiths 25 = .ok (.iload 4, 2) := by decide +kernel
theorem dX4_fittingFaiths_27 : decode cX4_fittingFaiths 27 = .ok (.invokevirtual 42, 3) := by decide +kernel
theorem dX4_fittingFaiths_30 : decode cX4_fittingFaiths 30 = .ok (.aload_n 0, 1) := by decide +kernel
theorem dX4_fittingFaiths_31 : decode cX4_fittingFaiths 31 = .ok (.getfield 28, 3) := by decide +kernel
theorem dX4_fittingFaiths_34 : decode cX4_fittingFaiths 34 = .ok (.aload_n 0, 1) := by decide +kernel
theorem dX4_fittingFaiths_35 : decode cX4_fittingFaiths 35 = .ok (.getfield 24, 3) := by decide +kernel
theorem dX4_fittingFaiths_38 : decode cX4_fittingFaiths 38 = .ok (.invokevirtual 46, 3) := by decide +kernel
theorem dX4_fittingFaiths_41 : decode cX4_fittingFaiths 41 = .ok (.aload_n 0, 1) := by decide +kernel
theorem dX4_fittingFaiths_42 : decode cX4_fittingFaiths 42 = .ok (.iload_n 2, 1) := by decide +kernel
theorem dX4_fittingFaiths_43 : decode cX4_fittingFaiths 43 = .ok (.invokevirtual 51, 3) := by decide +kernel
theorem dX4_fittingFaiths_46 : decode cX4_fittingFaiths 46 = .ok (.ifCond .eq 10, 3) := by decide +kernel
theorem dX4_fittingFaiths_49 : decode cX4_fittingFaiths 49 = .ok (.iload_n 3, 1) := by decide +kernel
theorem dX4_fittingFaiths_50 : decode cX4_fittingFaiths 50 = .ok (.iconst 1, 1) := by decide +kernel
theorem dX4_fittingFaiths_51 : decode cX4_fittingFaiths 51 = .ok (.iload 4, 2) := by decide +kernel
theorem dX4_fittingFaiths_53 : decode cX4_fittingFaiths 53 = .ok (.ishl, 1) := by decide +kernel
theorem dX4_fittingFaiths_54 : decode cX4_fittingFaiths 54 = .ok (.ior, 1) := by decide +kernel
theorem dX4_fittingFaiths_55 : decode cX4_fittingFaiths 55 = .ok (.istore_n 3, 1) := by decide +kernel
theorem dX4_fittingFaiths_56 : decode cX4_fittingFaiths 56 = .ok (.iconst 0, 1) := by decide +kernel
theorem dX4_fittingFaiths_57 : decode cX4_fittingFaiths 57 = .ok (.istore 5, 2) := by decide +kernel
theorem dX4_fittingFaiths_59 : decode cX4_fittingFaiths 59 = .ok (.iload 5, 2) := by decide +kernel
theorem dX4_fittingFaiths_61 : decode cX4_fittingFaiths 61 = .ok (.bipush 120, 2) := by decide +kernel
theorem dX4_fittingFaiths_63 : decode cX4_fittingFaiths 63 = .ok (.if_icmp .ge 32, 3) := by decide +kernel
theorem dX4_fittingFaiths_66 : decode cX4_fittingFaiths 66 = .ok (.aload_n 0, 1) := by decide +kernel
theorem dX4_fittingFaiths_67 : decode cX4_fittingFaiths 67 = .ok (.getfield 21, 3) := by decide +kernel
theorem dX4_fittingFaiths_70 : decode cX4_fittingFaiths 70 = .ok (.iload 4, 2) := by decide +kernel
theorem dX4_fittingFaiths_72 : decode cX4_fittingFaiths 72 = .ok (.bipush 120, 2) := by decide +kernel
theorem dX4_fittingFaiths_74 : decode cX4_fittingFaiths 74 = .ok (.imul, 1) := by decide +kernel
theorem dX4_fittingFaiths_75 : decode cX4_fittingFaiths 75 = .ok (.iload 5, 2) := by decide +kernel
theorem dX4_fittingFaiths_77 : decode cX4_fittingFaiths 77 = .ok (.iadd, 1) := by decide +kernel
theorem dX4_fittingFaiths_78 : decode cX4_fittingFaiths 78 = .ok (.aload_n 0, 1) := by decide +kernel
theorem dX4_fittingFaiths_79 : decode cX4_fittingFaiths 79 = .ok (.getfield 28, 3) := by decide +kernel
theorem dX4_fittingFaiths_82 : decode cX4_fittingFaiths 82 = .ok (.iload_n 2, 1) := by decide +kernel
theorem dX4_fittingFaiths_83 : decode cX4_fittingFaiths 83 = .ok (.iload 5, 2) := by decide +kernel
theorem dX4_fittingFaiths_85 : decode cX4_fittingFaiths 85 = .ok (.invokevirtual 55, 3) := by decide +kernel
theorem dX4_fittingFaiths_88 : decode cX4_fittingFaiths 88 = .ok (.iastore, 1) := by decide +kernel
theorem dX4_fittingFaiths_89 : decode cX4_fittingFaiths 89 = .ok (.iinc 5 1, 3) := by decide +kernel
theorem dX4_fittingFaiths_92 : decode cX4_fittingFaiths 92 = .ok (.goto (-33), 3) := by decide +kernel
theorem dX4_fittingFaiths_95 : decode cX4_fittingFaiths 95 = .ok (.iinc 4 1, 3) := by decide +kernel
theorem dX4_fittingFaiths_98 : decode cX4_fittingFaiths 98 = .ok (.goto (-85), 3) := by decide +kernel
theorem dX4_fittingFaiths_101 : decode cX4_fittingFaiths 101 = .ok (.iload_n 3, 1) := by decide +kernel
theorem dX4_fittingFaiths_102 : decode cX4_fittingFaiths 102 = .ok (.ireturn, 1) := by decide +kernel
theorem dX4_runIsAsSeen_0 : decode cX4_runIsAsSeen 0 = .ok (.iconst 0, 1) := by decide +kernel
theorem dX4_runIsAsSeen_1 : decode cX4_runIsAsSeen 1 = .ok (.istore_n 2, 1) := by decide +kernel
theorem dX4_runIsAsSeen_2 : decode cX4_runIsAsSeen 2 = .ok (.iload_n 2, 1) := by decide +kernel
theorem dX4_runIsAsSeen_3 : decode cX4_runIsAsSeen 3 = .ok (.aload_n 0, 1) := by decide +kernel
theorem dX4_runIsAsSeen_4 : decode cX4_runIsAsSeen 4 = .ok (.getfield 32, 3) := by decide +kernel
theorem dX4_runIsAsSeen_7 : decode cX4_runIsAsSeen 7 = .ok (.if_icmp .ge 44, 3) := by decide +kernel
theorem dX4_runIsAsSeen_10 : decode cX4_runIsAsSeen 10 = .ok (.aload_n 0, 1) := by decide +kernel
theorem dX4_runIsAsSeen_11 : decode cX4_runIsAsSeen 11 = .ok (.getfield 9, 3) := by decide +kernel
theorem dX4_runIsAsSeen_14 : decode cX4_runIsAsSeen 14 = .ok (.iload_n 2, 1) := by decide +kernel
theorem dX4_runIsAsSeen_15 : decode cX4_runIsAsSeen 15 = .ok (.iaload, 1) := by decide +kernel
theorem dX4_runIsAsSeen_16 : decode cX4_runIsAsSeen 16 = .ok (.iload_n 1, 1) := by decide +kernel
theorem dX4_runIsAsSeen_17 : decode cX4_runIsAsSeen 17 = .ok (.if_icmp .ne 28, 3) := by decide +kernel
theorem dX4_runIsAsSeen_20 : decode cX4_runIsAsSeen 20 = .ok (.aload_n 0, 1) := by decide +kernel
theorem dX4_runIsAsSeen_21 : decode cX4_runIsAsSeen 21 = .ok (.getfield 28, 3) := by decide +kernel
theorem dX4_runIsAsSeen_24 : decode cX4_runIsAsSeen 24 = .ok (.iload_n 1, 1) := by decide +kernel
theorem dX4_runIsAsSeen_25 : decode cX4_runIsAsSeen 25 = .ok (.aload_n 0, 1) := by decide +kernel
theorem dX4_runIsAsSeen_26 : decode cX4_runIsAsSeen 26 = .ok (.getfield 15, 3) := by decide +kernel
theorem dX4_runIsAsSeen_29 : decode cX4_runIsAsSeen 29 = .ok (.iload_n 2, 1) := by decide +kernel
theorem dX4_runIsAsSeen_30 : decode cX4_runIsAsSeen 30 = .ok (.iaload, 1) := by decide +kernel
theorem dX4_runIsAsSeen_31 : decode cX4_runIsAsSeen 31 = .ok (.invokevirtual 55, 3) := by decide +kernel
theorem dX4_runIsAsSeen_34 : decode cX4_runIsAsSeen 34 = .ok (.aload_n 0, 1) := by decide +kernel
theorem dX4_runIsAsSeen_35 : decode cX4_runIsAsSeen 35 = .ok (.getfield 18, 3) := by decide +kernel
theorem dX4_runIsAsSeen_38 : decode cX4_runIsAsSeen 38 = .ok (.iload_n 2, 1) := by decide +kernel
theorem dX4_runIsAsSeen_39 : decode cX4_runIsAsSeen 39 = .ok (.iaload, 1) := by decide +kernel
theorem dX4_runIsAsSeen_40 : decode cX4_runIsAsSeen 40 = .ok (.if_icmp .eq 5, 3) := by decide +kernel
theorem dX4_runIsAsSeen_43 : decode cX4_runIsAsSeen 43 = .ok (.iconst 0, 1) := by decide +kernel
theorem dX4_runIsAsSeen_44 : decode cX4_runIsAsSeen 44 = .ok (.ireturn, 1) := by decide +kernel
theorem dX4_runIsAsSeen_45 : decode cX4_runIsAsSeen 45 = .ok (.iinc 2 1, 3) := by decide +kernel
theorem dX4_runIsAsSeen_48 : decode cX4_runIsAsSeen 48 = .ok (.goto (-46), 3) := by decide +kernel
theorem dX4_runIsAsSeen_51 : decode cX4_runIsAsSeen 51 = .ok (.iconst 1, 1) := by decide +kernel
theorem dX4_runIsAsSeen_52 : decode cX4_runIsAsSeen 52 = .ok (.ireturn, 1) := by decide +kernel
theorem dX4_bestMinute_0 : decode cX4_bestMinute 0 = .ok (.iload_n 1, 1) := by decide +kernel
theorem dX4_bestMinute_1 : decode cX4_bestMinute 1 = .ok (.invokestatic 59, 3) := by decide +kernel
theorem dX4_bestMinute_4 : decode cX4_bestMinute 4 = .ok (.istore_n 2, 1) := by decide +kernel
theorem dX4_bestMinute_5 : decode cX4_bestMinute 5 = .ok (.bipush (-4), 2) := by decide +kernel
theorem dX4_bestMinute_7 : decode cX4_bestMinute 7 = .ok (.istore_n 3, 1) := by decide +kernel
theorem dX4_bestMinute_8 : decode cX4_bestMinute 8 = .ok (.iconst 0, 1) := by decide +kernel
theorem dX4_bestMinute_9 : decode cX4_bestMinute 9 = .ok (.istore 4, 2) := by decide +kernel
theorem dX4_bestMinute_11 : decode cX4_bestMinute 11 = .ok (.iload 4, 2) := by decide +kernel
theorem dX4_bestMinute_13 : decode cX4_bestMinute 13 = .ok (.bipush 120, 2) := by decide +kernel
theorem dX4_bestMinute_15 : decode cX4_bestMinute 15 = .ok (.if_icmp .ge 30, 3) := by decide +kernel
theorem dX4_bestMinute_18 : decode cX4_bestMinute 18 = .ok (.aload_n 0, 1) := by decide +kernel
theorem dX4_bestMinute_19 : decode cX4_bestMinute 19 = .ok (.iload_n 1, 1) := by decide +kernel
theorem dX4_bestMinute_20 : decode cX4_bestMinute 20 = .ok (.iload 4, 2) := by decide +kernel
theorem dX4_bestMinute_22 : decode cX4_bestMinute 22 = .ok (.invokevirtual 65, 3) := by decide +kernel
theorem dX4_bestMinute_25 : decode cX4_bestMinute 25 = .ok (.istore 5, 2) := by decide +kernel
theorem dX4_bestMinute_27 : decode cX4_bestMinute 27 = .ok (.iload 5, 2) := by decide +kernel
theorem dX4_bestMinute_29 : decode cX4_bestMinute 29 = .ok (.iload_n 2, 1) := by decide +kernel
theorem dX4_bestMinute_30 : decode cX4_bestMinute 30 = .ok (.if_icmp .ge 9, 3) := by decide +kernel
theorem dX4_bestMinute_33 : decode cX4_bestMinute 33 = .ok (.iload 5, 2) := by decide +kernel
theorem dX4_bestMinute_35 : decode cX4_bestMinute 35 = .ok (.istore_n 2, 1) := by decide +kernel
theorem dX4_bestMinute_36 : decode cX4_bestMinute 36 = .ok (.iload 4, 2) := by decide +kernel
theorem dX4_bestMinute_38 : decode cX4_bestMinute 38 = .ok (.istore_n 3, 1) := by decide +kernel
theorem dX4_bestMinute_39 : decode cX4_bestMinute 39 = .ok (.iinc 4 1, 3) := by decide +kernel
theorem dX4_bestMinute_42 : decode cX4_bestMinute 42 = .ok (.goto (-31), 3) := by decide +kernel
theorem dX4_bestMinute_45 : decode cX4_bestMinute 45 = .ok (.aload_n 0, 1) := by decide +kernel
theorem dX4_bestMinute_46 : decode cX4_bestMinute 46 = .ok (.iload_n 3, 1) := by decide +kernel
theorem dX4_bestMinute_47 : decode cX4_bestMinute 47 = .ok (.bipush (-4), 2) := by decide +kernel
theorem dX4_bestMinute_49 : decode cX4_bestMinute 49 = .ok (.if_icmp .ne 8, 3) := by decide +kernel
theorem dX4_bestMinute_52 : decode cX4_bestMinute 52 = .ok (.bipush (-4), 2) := by decide +kernel
theorem dX4_bestMinute_54 : decode cX4_bestMinute 54 = .ok (.goto 4, 3) := by decide +kernel
theorem dX4_bestMinute_57 : decode cX4_bestMinute 57 = .ok (.iload_n 2, 1) := by decide +kernel
theorem dX4_bestMinute_58 : decode cX4_bestMinute 58 = .ok (.putfield 68, 3) := by decide +kernel
theorem dX4_bestMinute_61 : decode cX4_bestMinute 61 = .ok (.iload_n 3, 1) := by decide +kernel
theorem dX4_bestMinute_62 : decode cX4_bestMinute 62 = .ok (.ireturn, 1) := by decide +kernel
theorem dX4_mostAlike_0 : decode cX4_mostAlike 0 = .ok (.iconst 0, 1) := by decide +kernel
theorem dX4_mostAlike_1 : decode cX4_mostAlike 1 = .ok (.istore_n 3, 1) := by decide +kernel
theorem dX4_mostAlike_2 : decode cX4_mostAlike 2 = .ok (.iconst 0, 1) := by decide +kernel
theorem dX4_mostAlike_3 : decode cX4_mostAlike 3 = .ok (.istore 4, 2) := by decide +kernel
theorem dX4_mostAlike_5 : decode cX4_mostAlike 5 = .ok (.iload 4, 2) := by decide +kernel
theorem dX4_mostAlike_7 : decode cX4_mostAlike 7 = .ok (.iconst 4, 1) := by decide +kernel
theorem dX4_mostAlike_8 : decode cX4_mostAlike 8 = .ok (.if_icmp .ge 78, 3) := by decide +kernel
theorem dX4_mostAlike_11 : decode cX4_mostAlike 11 = .ok (.iconst 0, 1) := by decide +kernel
theorem dX4_mostAlike_12 : decode cX4_mostAlike 12 = .ok (.istore 5, 2) := by decide +kernel
theorem dX4_mostAlike_14 : decode cX4_mostAlike 14 = .ok (.iconst 0, 1) := by decide +kernel
theorem dX4_mostAlike_15 : decode cX4_mostAlike 15 = .ok (.istore 6, 2) := by decide +kernel
theorem dX4_mostAlike_17 : decode cX4_mostAlike 17 = .ok (.iload 6, 2) := by decide +kernel
theorem dX4_mostAlike_19 : decode cX4_mostAlike 19 = .ok (.iconst 4, 1) := by decide +kernel
theorem dX4_mostAlike_20 : decode cX4_mostAlike 20 = .ok (.if_icmp .ge 53, 3) := by decide +kernel
theorem dX4_mostAlike_23 : decode cX4_mostAlike 23 = .ok (.iload_n 1, 1) := by decide +kernel
theorem dX4_mostAlike_24 : decode cX4_mostAlike 24 = .ok (.iload 4, 2) := by decide +kernel
theorem dX4_mostAlike_26 : decode cX4_mostAlike 26 = .ok (.ishr, 1) := by decide +kernel
theorem dX4_mostAlike_27 : decode cX4_mostAlike 27 = .ok (.iload_n 1, 1) := by decide +kernel
theorem dX4_mostAlike_28 : decode cX4_mostAlike 28 = .ok (.iload 6, 2) := by decide +kernel
theorem dX4_mostAlike_30 : decode cX4_mostAlike 30 = .ok (.ishr, 1) := by decide +kernel
theorem dX4_mostAlike_31 : decode cX4_mostAlike 31 = .ok (.iand, 1) := by decide +kernel
theorem dX4_mostAlike_32 : decode cX4_mostAlike 32 = .ok (.iconst 1, 1) := by decide +kernel
theorem dX4_mostAlike_33 : decode cX4_mostAlike 33 = .ok (.iand, 1) := by decide +kernel
theorem dX4_mostAlike_34 : decode cX4_mostAlike 34 = .ok (.ifCond .eq 33, 3) := by decide +kernel
theorem dX4_mostAlike_37 : decode cX4_mostAlike 37 = .ok (.aload_n 0, 1) := by decide +kernel
theorem dX4_mostAlike_38 : decode cX4_mostAlike 38 = .ok (.getfield 21, 3) := by decide +kernel
theorem dX4_mostAlike_41 : decode cX4_mostAlike 41 = .ok (.iload 4, 2) := by decide +kernel
theorem dX4_mostAlike_43 : decode cX4_mostAlike 43 = .ok (.bipush 120, 2) := by decide +kernel
theorem dX4_mostAlike_45 : decode cX4_mostAlike 45 = .ok (.imul, 1) := by decide +kernel
theorem dX4_mostAlike_46 : decode cX4_mostAlike 46 = .ok (.iload_n 2, 1) := by decide +kernel
theorem dX4_mostAlike_47 : decode cX4_mostAlike 47 = .ok (.iadd, 1) := by decide +kernel
theorem dX4_mostAlike_48 : decode cX4_mostAlike 48 = .ok (.iaload, 1) := by decide +kernel
theorem dX4_mostAlike_49 : decode cX4_mostAlike 49 = .ok (.aload_n 0, 1) := by decide +kernel
theorem dX4_mostAlike_50 : decode cX4_mostAlike 50 = .ok (.getfield 21, 3) := by decide +kernel
theorem dX4_mostAlike_53 : decode cX4_mostAlike 53 = .ok (.iload 6, 2) := by decide +kernel
theorem dX4_mostAlike_55 : decode cX4_mostAlike 55 = .ok (.bipush 120, 2) := by decide +kernel
theorem dX4_mostAlike_57 : decode cX4_mostAlike 57 = .ok (.imul, 1) := by decide +kernel
theorem dX4_mostAlike_58 : decode cX4_mostAlike 58 = .ok (.iload_n 2, 1) := by decide +kernel
theorem dX4_mostAlike_59 : decode cX4_mostAlike 59 = .ok (.iadd, 1) := by decide +kernel
theorem dX4_mostAlike_60 : decode cX4_mostAlike 60 = .ok (.iaload, 1) := by decide +kernel
theorem dX4_mostAlike_61 : decode cX4_mostAlike 61 = .ok (.if_icmp .ne 6, 3) := by decide +kernel
theorem dX4_mostAlike_64 : decode cX4_mostAlike 64 = .ok (.iinc 5 1, 3) := by decide +kernel
theorem dX4_mostAlike_67 : decode cX4_mostAlike 67 = .ok (.iinc 6 1, 3) := by decide +kernel
theorem dX4_mostAlike_70 : decode cX4_mostAlike 70 = .ok (.goto (-53), 3) := by decide +kernel
theorem dX4_mostAlike_73 : decode cX4_mostAlike 73 = .ok (.iload_n 3, 1) := by decide +kernel
theorem dX4_mostAlike_74 : decode cX4_mostAlike 74 = .ok (.iload 5, 2) := by decide +kernel
theorem dX4_mostAlike_76 : decode cX4_mostAlike 76 = .ok (.invokestatic 71, 3) := by decide +kernel
theorem dX4_mostAlike_79 : decode cX4_mostAlike 79 = .ok (.istore_n 3, 1) := by decide +kernel
theorem dX4_mostAlike_80 : decode cX4_mostAlike 80 = .ok (.iinc 4 1, 3) := by decide +kernel
theorem dX4_mostAlike_83 : decode cX4_mostAlike 83 = .ok (.goto (-78), 3) := by decide +kernel
theorem dX4_mostAlike_86 : decode cX4_mostAlike 86 = .ok (.iload_n 3, 1) := by decide +kernel
theorem dX4_mostAlike_87 : decode cX4_mostAlike 87 = .ok (.ireturn, 1) := by decide +kernel
theorem dX5_init_0 : decode cX5_init 0 = .ok (.aload_n 0, 1) := by decide +kernel
theorem dX5_init_1 : decode cX5_init 1 = .ok (.invokespecial 3, 3) := by decide +kernel
theorem dX5_init_4 : decode cX5_init 4 = .ok (.aload_n 0, 1) := by decide +kernel
theorem dX5_init_5 : decode cX5_init 5 = .ok (.sipush 160, 3) := by decide +kernel
theorem dX5_init_8 : decode cX5_init 8 = .ok (.newarray .int, 2) := by decide +kernel
theorem dX5_init_10 : decode cX5_init 10 = .ok (.putfield 9, 3) := by decide +kernel
theorem dX5_init_13 : decode cX5_init 13 = .ok (.return_, 1) := by decide +kernel
theorem dX5_append_0 : decode cX5_append 0 = .ok (.aload_n 0, 1) := by decide +kernel
theorem dX5_append_1 : decode cX5_append 1 = .ok (.getfield 15, 3) := by decide +kernel
theorem dX5_append_4 : decode cX5_append 4 = .ok (.sipush 160, 3) := by decide +kernel
theorem dX5_append_7 : decode cX5_append 7 = .ok (.if_icmp .lt 5, 3) := by decide +kernel
theorem dX5_append_10 : decode cX5_append 10 = .ok (.iconst 0, 1) := by decide +kernel
theorem dX5_append_11 : decode cX5_append 11 = .ok (.ireturn, 1) := by decide +kernel
theorem dX5_append_12 : decode cX5_append 12 = .ok (.aload_n 0, 1) := by decide +kernel
theorem dX5_append_13 : decode cX5_append 13 = .ok (.getfield 9, 3) := by decide +kernel
theorem dX5_append_16 : decode cX5_append 16 = .ok (.aload_n 0, 1) := by decide +kernel
theorem dX5_append_17 : decode cX5_append 17 = .ok (.getfield 15, 3) := by decide +kernel
theorem dX5_append_20 : decode cX5_append 20 = .ok (.iload_n 1, 1) := by decide +kernel
theorem dX5_append_21 : decode cX5_append 21 = .ok (.iastore, 1) := by decide +kernel
theorem dX5_append_22 : decode cX5_append 22 = .ok (.aload_n 0, 1) := by decide +kernel
theorem dX5_append_23 : decode cX5_append 23 = .ok (.dup, 1) := by decide +kernel
theorem dX5_append_24 : decode cX5_append 24 = .ok (.getfield 15, 3) := by decide +kernel
theorem dX5_append_27 : decode cX5_append 27 = .ok (.iconst 1, 1) := by decide +kernel
theorem dX5_append_28 : decode cX5_append 28 = .ok (.iadd, 1) := by decide +kernel
theorem dX5_append_29 : decode cX5_append 29 = .ok (.putfield 15, 3) := by decide +kernel
theorem dX5_append_32 : decode cX5_append 32 = .ok (.iconst 1, 1) := by decide +kernel
theorem dX5_append_33 : decode cX5_append 33 = .ok (.ireturn, 1) := by decide +kernel
theorem dX5_parse_0 : decode cX5_parse 0 = .ok (.aload_n 1, 1) := by decide +kernel
theorem dX5_parse_1 : decode cX5_parse 1 = .ok (.invokevirtual 19, 3) := by decide +kernel
theorem dX5_parse_4 : decode cX5_parse 4 = .ok (.aload_n 0, 1) := by decide +kernel
theorem dX5_parse_5 : decode cX5_parse 5 = .ok (.iconst 0, 1) := by decide +kernel
theorem dX5_parse_6 : decode cX5_parse 6 = .ok (.putfield 24, 3) := by decide +kernel
theorem dX5_parse_9 : decode cX5_parse 9 = .ok (.aload_n 0, 1) := by decide +kernel
theorem dX5_parse_10 : decode cX5_parse 10 = .ok (.iconst 0, 1) := by decide +kernel
theorem dX5_parse_11 : decode cX5_parse 11 = .ok (.putfield 27, 3) := by decide +kernel
theorem dX5_parse_14 : decode cX5_parse 14 = .ok (.aload_n 0, 1) := by decide +kernel
theorem dX5_parse_15 : decode cX5_parse 15 = .ok (.iconst 0, 1) := by decide +kernel
theorem dX5_parse_16 : decode cX5_parse 16 = .ok (.putfield 31, 3) := by decide +kernel
theorem dX5_parse_19 : decode cX5_parse 19 = .ok (.iconst 0, 1) := by decide +kernel
theorem dX5_parse_20 : decode cX5_parse 20 = .ok (.istore_n 2, 1) := by decide +kernel
theorem dX5_parse_21 : decode cX5_parse 21 = .ok (.iconst 0, 1) := by decide +kernel
theorem dX5_parse_22 : decode cX5_parse 22 = .ok (.istore_n 3, 1) := by decide +kernel
theorem dX5_parse_23 : decode cX5_parse 23 = .ok (.iload_n 3, 1) := by decide +kernel
theorem dX5_parse_24 : decode cX5_parse 24 = .ok (.sipush 160, 3) := by decide +kernel
theorem dX5_parse_27 : decode cX5_parse 27 = .ok (.if_icmp .gt 20, 3) := by decide +kernel
theorem dX5_parse_30 : decode cX5_parse 30 = .ok (.aload_n 0, 1) := by decide +kernel
theorem dX5_parse_31 : decode cX5_parse 31 = .ok (.aload_n 1, 1) := by decide +kernel
theorem dX5_parse_32 : decode cX5_parse 32 = .ok (.invokevirtual 34, 3) := by decide +kernel
theorem dX5_parse_35 : decode cX5_parse 35 = .ok (.ifCond .eq 12, 3) := by decide +kernel
theorem dX5_parse_38 : decode cX5_parse 38 = .ok (.iinc 2 1, 3) := by decide +kernel
theorem dX5_parse_41 : decode cX5_parse 41 = .ok (.iinc 3 1, 3) := by decide +kernel
theorem dX5_parse_44 : decode cX5_parse 44 = .ok (.goto (-21), 3) := by decide +kernel
theorem dX5_parse_47 : decode cX5_parse 47 = .ok (.aload_n 0, 1) := by decide +kernel
theorem dX5_parse_48 : decode cX5_parse 48 = .ok (.getfield 24, 3) := by decide +kernel
theorem dX5_parse_51 : decode cX5_parse 51 = .ok (.ifCond .ne 8, 3) := by decide +kernel
theorem dX5_parse_54 : decode cX5_parse 54 = .ok (.aload_n 0, 1) := by decide +kernel
theorem dX5_parse_55 : decode cX5_parse 55 = .ok (.aload_n 1, 1) := by decide +kernel
theorem dX5_parse_56 : decode cX5_parse 56 = .ok (.invokevirtual 38, 3) := by decide +kernel
theorem dX5_parse_59 : decode cX5_parse 59 = .ok (.iload_n 2, 1) := by decide +kernel
theorem dX5_parse_60 : decode cX5_parse 60 = .ok (.ireturn, 1) := by decide +kernel
theorem dX5_takeLine_0 : decode cX5_takeLine 0 = .ok (.aload_n 0, 1) := by decide +kernel
theorem dX5_takeLine_1 : decode cX5_takeLine 1 = .ok (.invokevirtual 42, 3) := by decide +kernel
theorem dX5_takeLine_4 : decode cX5_takeLine 4 = .ok (.ifCond .eq 10, 3) := by decide +kernel
theorem dX5_takeLine_7 : decode cX5_takeLine 7 = .ok (.aload_n 0, 1) := by decide +kernel
theorem dX5_takeLine_8 : decode cX5_takeLine 8 = .ok (.getfield 46, 3) := by decide +kernel
theorem dX5_takeLine_11 : decode cX5_takeLine 11 = .ok (.ifCond .ne 5, 3) := by decide +kernel
theorem dX5_takeLine_14 : decode cX5_takeLine 14 = .ok (.iconst 0, 1) := by decide +kernel
theorem dX5_takeLine_15 : decode cX5_takeLine 15 = .ok (.ireturn, 1) := by decide +kernel
theorem dX5_takeLine_16 : decode cX5_takeLine 16 = .ok (.aload_n 0, 1) := by decide +kernel
theorem dX5_takeLine_17 : decode cX5_takeLine 17 = .ok (.invokevirtual 49, 3) := by decide +kernel
theorem dX5_takeLine_20 : decode cX5_takeLine 20 = .ok (.istore_n 2, 1) := by decide +kernel
theorem dX5_takeLine_21 : decode cX5_takeLine 21 = .ok (.iload_n 2, 1) := by decide +kernel
theorem dX5_takeLine_22 : decode cX5_takeLine 22 = .ok (.ifCond .ne 12, 3) := by decide +kernel
theorem dX5_takeLine_25 : decode cX5_takeLine 25 = .ok (.aload_n 0, 1) := by decide +kernel
theorem dX5_takeLine_26 : decode cX5_takeLine 26 = .ok (.aload_n 1, 1) := by decide +kernel
theorem dX5_takeLine_27 : decode cX5_takeLine 27 = .ok (.invokevirtual 53, 3) := by decide +kernel
theorem dX5_takeLine_30 : decode cX5_takeLine 30 = .ok (.istore_n 3, 1) := by decide +kernel
theorem dX5_takeLine_31 : decode cX5_takeLine 31 = .ok (.goto 82, 3) := by decide +kernel
theorem dX5_takeLine_34 : decode cX5_takeLine 34 = .ok (.iload_n 2, 1) := by decide +kernel
theorem dX5_takeLine_35 : decode cX5_takeLine 35 = .ok (.ifCond .le 18, 3) := by decide +kernel
theorem dX5_takeLine_38 : decode cX5_takeLine 38 = .ok (.iload_n 2, 1) := by decide +kernel
theorem dX5_takeLine_39 : decode cX5_takeLine 39 = .ok (.iconst 4, 1) := by decide +kernel
theorem dX5_takeLine_40 : decode cX5_takeLine 40 = .ok (.if_icmp .gt 13, 3) := by decide +kernel
theorem dX5_takeLine_43 : decode cX5_takeLine 43 = .ok (.aload_n 0, 1) := by decide +kernel
theorem dX5_takeLine_44 : decode cX5_takeLine 44 = .ok (.aload_n 1, 1) := by decide +kernel
theorem dX5_takeLine_45 : decode cX5_takeLine 45 = .ok (.iload_n 2, 1) := by decide +kernel
theorem dX5_takeLine_46 : decode cX5_takeLine 46 = .ok (.invokevirtual 56, 3) := by decide +kernel
theorem dX5_takeLine_49 : decode cX5_takeLine 49 = .ok (.istore_n 3, 1) := by decide +kernel
theorem dX5_takeLine_50 : decode cX5_takeLine 50 = .ok (.goto 63, 3) := by decide +kernel
theorem dX5_takeLine_53 : decode cX5_takeLine 53 = .ok (.iload_n 2, 1) := by decide +kernel
theorem dX5_takeLine_54 : decode cX5_takeLine 54 = .ok (.iconst 5, 1) := by decide +kernel
theorem dX5_takeLine_55 : decode cX5_takeLine 55 = .ok (.if_icmp .ne 12, 3) := by decide +kernel
theorem dX5_takeLine_58 : decode cX5_takeLine 58 = .ok (.aload_n 0, 1) := by decide +kernel
theorem dX5_takeLine_59 : decode cX5_takeLine 59 = .ok (.aload_n 1, 1) := by decide +kernel
theorem dX5_takeLine_60 : decode cX5_takeLine 60 = .ok (.invokevirtual 60, 3) := by decide +kernel
theorem dX5_takeLine_63 : decode cX5_takeLine 63 = .ok (.istore_n 3, 1) := by decide +kernel
theorem dX5_takeLine_64 : decode cX5_takeLine 64 = .ok (.goto 49, 3) := by decide +kernel
theorem dX5_takeLine_67 : decode cX5_takeLine 67 = .ok (.iload_n 2, 1) := by decide +kernel
theorem dX5_takeLine_68 : decode cX5_takeLine 68 = .ok (.bipush 6, 2) := by decide +kernel
theorem dX5_takeLine_70 : decode cX5_takeLine 70 = .ok (.if_icmp .ne 12, 3) := by decide +kernel
theorem dX5_takeLine_73 : decode cX5_takeLine 73 = .ok (.aload_n 0, 1) := by decide +kernel
theorem dX5_takeLine_74 : decode cX5_takeLine 74 = .ok (.aload_n 1, 1) := by decide +kernel
theorem dX5_takeLine_75 : decode cX5_takeLine 75 = .ok (.invokevirtual 63, 3) := by decide +kernel
theorem dX5_takeLine_78 : decode cX5_takeLine 78 = .ok (.istore_n 3, 1) := by decide +kernel
theorem dX5_takeLine_79 : decode cX5_takeLine 79 = .ok (.goto 34, 3) := by decide +kernel
theorem dX5_takeLine_82 : decode cX5_takeLine 82 = .ok (.iload_n 2, 1) := by decide +kernel
theorem dX5_takeLine_83 : decode cX5_takeLine 83 = .ok (.bipush 7, 2) := by decide +kernel
theorem dX5_takeLine_85 : decode cX5_takeLine 85 = .ok (.if_icmp .lt 22, 3) := by decide +kernel
theorem dX5_takeLine_88 : decode cX5_takeLine 88 = .ok (.iload_n 2, 1) := by decide +kernel
theorem dX5_takeLine_89 : decode cX5_takeLine 89 = .ok (.bipush 10, 2) := by decide +kernel
theorem dX5_takeLine_91 : decode cX5_takeLine 91 = .ok (.if_icmp .gt 16, 3) := by decide +kernel
theorem dX5_takeLine_94 : decode cX5_takeLine 94 = .ok (.aload_n 0, 1) := by decide +kernel
theorem dX5_takeLine_95 : decode cX5_takeLine 95 = .ok (.aload_n 1, 1) := by decide +kernel
theorem dX5_takeLine_96 : decode cX5_takeLine 96 = .ok (.iload_n 2, 1) := by decide +kernel
theorem dX5_takeLine_97 : decode cX5_takeLine 97 = .ok (.bipush 7, 2) := by decide +kernel
theorem dX5_takeLine_99 : decode cX5_takeLine 99 = .ok (.isub, 1) := by decide +kernel
theorem dX5_takeLine_100 : decode cX5_takeLine 100 = .ok (.invokevirtual 66, 3) := by decide +kernel
theorem dX5_takeLine_103 : decode cX5_takeLine 103 = .ok (.istore_n 3, 1) := by decide +kernel
theorem dX5_takeLine_104 : decode cX5_takeLine 104 = .ok (.goto 9, 3) := by decide +kernel
theorem dX5_takeLine_107 : decode cX5_takeLine 107 = .ok (.aload_n 0, 1) := by decide +kernel
theorem dX5_takeLine_108 : decode cX5_takeLine 108 = .ok (.iconst 2, 1) := by decide +kernel
theorem dX5_takeLine_109 : decode cX5_takeLine 109 = .ok (.invokevirtual 69, 3) := by decide +kernel
theorem dX5_takeLine_112 : decode cX5_takeLine 112 = .ok (.istore_n 3, 1) := by decide +kernel
theorem dX5_takeLine_113 : decode cX5_takeLine 113 = .ok (.iload_n 3, 1) := by decide +kernel
theorem dX5_takeLine_114 : decode cX5_takeLine 114 = .ok (.ifCond .eq 14, 3) := by decide +kernel
theorem dX5_takeLine_117 : decode cX5_takeLine 117 = .ok (.aload_n 0, 1) := by decide +kernel
theorem dX5_takeLine_118 : decode cX5_takeLine 118 = .ok (.invokevirtual 73, 3) := by decide +kernel
theorem dX5_takeLine_121 : decode cX5_takeLine 121 = .ok (.ifCond .eq 7, 3) := by decide +kernel
theorem dX5_takeLine_124 : decode cX5_takeLine 124 = .ok (.iconst 1, 1) := by decide +kernel
theorem dX5_takeLine_125 : decode cX5_takeLine 125 = .ok (.goto 4, 3) := by decide +kernel
theorem dX5_takeLine_128 : decode cX5_takeLine 128 = .ok (.iconst 0, 1) := by decide +kernel
theorem dX5_takeLine_129 : decode cX5_takeLine 129 = .ok (.ireturn, 1) := by decide +kernel
theorem dX5_takeBlocks_0 : decode cX5_takeBlocks 0 = .ok (.aload_n 0, 1) := by decide +kernel
theorem dX5_takeBlocks_1 : decode cX5_takeBlocks 1 = .ok (.getfield 27, 3) := by decide +kernel
theorem dX5_takeBlocks_4 : decode cX5_takeBlocks 4 = .ok (.ifCond .eq 9, 3) := by decide +kernel
theorem dX5_takeBlocks_7 : decode cX5_takeBlocks 7 = .ok (.aload_n 0, 1) := by decide +kernel
theorem dX5_takeBlocks_8 : decode cX5_takeBlocks 8 = .ok (.iconst 4, 1) := by decide +kernel
theorem dX5_takeBlocks_9 : decode cX5_takeBlocks 9 = .ok (.invokevirtual 69, 3) := by decide +kernel
theorem dX5_takeBlocks_12 : decode cX5_takeBlocks 12 = .ok (.ireturn, 1) := by decide +kernel
theorem dX5_takeBlocks_13 : decode cX5_takeBlocks 13 = .ok (.aload_n 0, 1) := by decide +kernel
theorem dX5_takeBlocks_14 : decode cX5_takeBlocks 14 = .ok (.iconst 2, 1) := by decide +kernel
theorem dX5_takeBlocks_15 : decode cX5_takeBlocks 15 = .ok (.bipush 8, 2) := by decide +kernel
theorem dX5_takeBlocks_17 : decode cX5_takeBlocks 17 = .ok (.invokevirtual 76, 3) := by decide +kernel
theorem dX5_takeBlocks_20 : decode cX5_takeBlocks 20 = .ok (.ifCond .ne 5, 3) := by decide +kernel
theorem dX5_takeBlocks_23 : decode cX5_takeBlocks 23 = .ok (.iconst 0, 1) := by decide +kernel
theorem dX5_takeBlocks_24 : decode cX5_takeBlocks 24 = .ok (.ireturn, 1) := by decide +kernel
theorem dX5_takeBlocks_25 : decode cX5_takeBlocks 25 = .ok (.aload_n 0, 1) := by decide +kernel
theorem dX5_takeBlocks_26 : decode cX5_takeBlocks 26 = .ok (.iconst 1, 1) := by decide +kernel
theorem dX5_takeBlocks_27 : decode cX5_takeBlocks 27 = .ok (.putfield 27, 3) := by decide +kernel
theorem dX5_takeBlocks_30 : decode cX5_takeBlocks 30 = .ok (.aload_n 1, 1) := by decide +kernel
theorem dX5_takeBlocks_31 : decode cX5_takeBlocks 31 = .ok (.aload_n 0, 1) := by decide +kernel
theorem dX5_takeBlocks_32 : decode cX5_takeBlocks 32 = .ok (.getfield 80, 3) := by decide +kernel
theorem dX5_takeBlocks_35 : decode cX5_takeBlocks 35 = .ok (.putfield 83, 3) := by decide +kernel
theorem dX5_takeBlocks_38 : decode cX5_takeBlocks 38 = .ok (.iconst 1, 1) := by decide +kernel
theorem dX5_takeBlocks_39 : decode cX5_takeBlocks 39 = .ok (.ireturn, 1) := by decide +kernel
theorem dX5_takeOmen_0 : decode cX5_takeOmen 0 = .ok (.aload_n 0, 1) := by decide +kernel
theorem dX5_takeOmen_1 : decode cX5_takeOmen 1 = .ok (.iconst 0, 1) := by decide +kernel
theorem dX5_takeOmen_2 : decode cX5_takeOmen 2 = .ok (.bipush 7, 2) := by decide +kernel
theorem dX5_takeOmen_4 : decode cX5_takeOmen 4 = .ok (.invokevirtual 76, 3) := by decide +kernel
theorem dX5_takeOmen_7 : decode cX5_takeOmen 7 = .ok (.ifCond .ne 5, 3) := by decide +kernel
theorem dX5_takeOmen_10 : decode cX5_takeOmen 10 = .ok (.iconst 0, 1) := by decide +kernel
theorem dX5_takeOmen_11 : decode cX5_takeOmen 11 = .ok (.ireturn, 1) := by decide +kernel
theorem dX5_takeOmen_12 : decode cX5_takeOmen 12 = .ok (.aload_n 1, 1) := by decide +kernel
theorem dX5_takeOmen_13 : decode cX5_takeOmen 13 = .ok (.getfield 86, 3) := by decide +kernel
theorem dX5_takeOmen_16 : decode cX5_takeOmen 16 = .ok (.aload_n 0, 1) := by decide +kernel
theorem dX5_takeOmen_17 : decode cX5_takeOmen 17 = .ok (.getfield 80, 3) := by decide +kernel
theorem dX5_takeOmen_20 : decode cX5_takeOmen 20 = .ok (.iaload, 1) := by decide +kernel
theorem dX5_takeOmen_21 : decode cX5_takeOmen 21 = .ok (.ifCond .eq 9, 3) := by decide +kernel
theorem dX5_takeOmen_24 : decode cX5_takeOmen 24 = .ok (.aload_n 0, 1) := by decide +kernel
theorem dX5_takeOmen_25 : decode cX5_takeOmen 25 = .ok (.iconst 4, 1) := by decide +kernel
theorem dX5_takeOmen_26 : decode cX5_takeOmen 26 = .ok (.invokevirtual 69, 3) := by decide +kernel
theorem dX5_takeOmen_29 : decode cX5_takeOmen 29 = .ok (.ireturn, 1) := by decide +kernel
theorem dX5_takeOmen_30 : decode cX5_takeOmen 30 = .ok (.aload_n 1, 1) := by decide +kernel
theorem dX5_takeOmen_31 : decode cX5_takeOmen 31 = .ok (.getfield 86, 3) := by decide +kernel
theorem dX5_takeOmen_34 : decode cX5_takeOmen 34 = .ok (.aload_n 0, 1) := by decide +kernel
theorem dX5_takeOmen_35 : decode cX5_takeOmen 35 = .ok (.getfield 80, 3) := by decide +kernel
theorem dX5_takeOmen_38 : decode cX5_takeOmen 38 = .ok (.iload_n 2, 1) := by decide +kernel
theorem dX5_takeOmen_39 : decode cX5_takeOmen 39 = .ok (.iastore, 1) := by decide +kernel
theorem dX5_takeOmen_40 : decode cX5_takeOmen 40 = .ok (.iconst 1, 1) := by decide +kernel
theorem dX5_takeOmen_41 : decode cX5_takeOmen 41 = .ok (.ireturn, 1) := by decide +kernel
theorem dX5_takeGuard_0 : decode cX5_takeGuard 0 = .ok (.aload_n 0, 1) := by decide +kernel
theorem dX5_takeGuard_1 : decode cX5_takeGuard 1 = .ok (.iconst 0, 1) := by decide +kernel
theorem dX5_takeGuard_2 : decode cX5_takeGuard 2 = .ok (.bipush 7, 2) := by decide +kernel
theorem dX5_takeGuard_4 : decode cX5_takeGuard 4 = .ok (.invokevirtual 76, 3) := by decide +kernel
theorem dX5_takeGuard_7 : decode cX5_takeGuard 7 = .ok (.ifCond .ne 5, 3) := by decide +kernel
theorem dX5_takeGuard_10 : decode cX5_takeGuard 10 = .ok (.iconst 0, 1) := by decide +kernel
theorem dX5_takeGuard_11 : decode cX5_takeGuard 11 = .ok (.ireturn, 1) := by decide +kernel
theorem dX5_takeGuard_12 : decode cX5_takeGuard 12 = .ok (.aload_n 1, 1) := by decide +kernel
theorem dX5_takeGuard_13 : decode cX5_takeGuard 13 = .ok (.aload_n 0, 1) := by decide +kernel
theorem dX5_takeGuard_14 : decode cX5_takeGuard 14 = .ok (.getfield 80, 3) := by decide +kernel
theorem dX5_takeGuard_17 : decode cX5_takeGuard 17 = .ok (.invokevirtual 89, 3) := by decide +kernel
theorem dX5_takeGuard_20 : decode cX5_takeGuard 20 = .ok (.ifCond .eq 9, 3) := by decide +kernel
theorem dX5_takeGuard_23 : decode cX5_takeGuard 23 = .ok (.aload_n 0, 1) := by decide +kernel
theorem dX5_takeGuard_24 : decode cX5_takeGuard 24 = .ok (.iconst 4, 1) := by decide +kernel
theorem dX5_takeGuard_25 : decode cX5_takeGuard 25 = .ok (.invokevirtual 69, 3) := by decide +kernel
theorem dX5_takeGuard_28 : decode cX5_takeGuard 28 = .ok (.ireturn, 1) := by decide +kernel
theorem dX5_takeGuard_29 : decode cX5_takeGuard 29 = .ok (.aload_n 1, 1) := by decide +kernel
theorem dX5_takeGuard_30 : decode cX5_takeGuard 30 = .ok (.dup, 1) := by decide +kernel
theorem dX5_takeGuard_31 : decode cX5_takeGuard 31 = .ok (.getfield 92, 3) := by decide +kernel
theorem dX5_takeGuard_34 : decode cX5_takeGuard 34 = .ok (.iconst 1, 1) := by decide +kernel
theorem dX5_takeGuard_35 : decode cX5_takeGuard 35 = .ok (.aload_n 0, 1) := by decide +kernel
theorem dX5_takeGuard_36 : decode cX5_takeGuard 36 = .ok (.getfield 80, 3) := by decide +kernel
theorem dX5_takeGuard_39 : decode cX5_takeGuard 39 = .ok (.ishl, 1) := by decide +kernel
theorem dX5_takeGuard_40 : decode cX5_takeGuard 40 = .ok (.ior, 1) := by decide +kernel
theorem dX5_takeGuard_41 : decode cX5_takeGuard 41 = .ok (.putfield 92, 3) := by decide +kernel
theorem dX5_takeGuard_44 : decode cX5_takeGuard 44 = .ok (.iconst 1, 1) := by decide +kernel
theorem dX5_takeGuard_45 : decode cX5_takeGuard 45 = .ok (.ireturn, 1) := by decide +kernel
theorem dX5_takeLock_0 : decode cX5_takeLock 0 = .ok (.aload_n 1, 1) := by decide +kernel
theorem dX5_takeLock_1 : decode cX5_takeLock 1 = .ok (.getfield 95, 3) := by decide +kernel
theorem dX5_takeLock_4 : decode cX5_takeLock 4 = .ok (.iconst 4, 1) := by decide +kernel
theorem dX5_takeLock_5 : decode cX5_takeLock 5 = .ok (.if_icmp .lt 9, 3) := by decide +kernel
theorem dX5_takeLock_8 : decode cX5_takeLock 8 = .ok (.aload_n 0, 1) := by decide +kernel
theorem dX5_takeLock_9 : decode cX5_takeLock 9 = .ok (.iconst 5, 1) := by decide +kernel
theorem dX5_takeLock_10 : decode cX5_takeLock 10 = .ok (.invokevirtual 69, 3) := by decide +kernel
theorem dX5_takeLock_13 : decode cX5_takeLock 13 = .ok (.ireturn, 1) := by decide +kernel
theorem dX5_takeLock_14 : decode cX5_takeLock 14 = .ok (.aload_n 0, 1) := by decide +kernel
theorem dX5_takeLock_15 : decode cX5_takeLock 15 = .ok (.iconst 0, 1) := by decide +kernel
theorem dX5_takeLock_16 : decode cX5_takeLock 16 = .ok (.bipush 7, 2) := by decide +kernel
theorem dX5_takeLock_18 : decode cX5_takeLock 18 = .ok (.invokevirtual 76, 3) := by decide +kernel
theorem dX5_takeLock_21 : decode cX5_takeLock 21 = .ok (.ifCond .ne 5, 3) := by decide +kernel
theorem dX5_takeLock_24 : decode cX5_takeLock 24 = .ok (.iconst 0, 1) := by decide +kernel
theorem dX5_takeLock_25 : decode cX5_takeLock 25 = .ok (.ireturn, 1) := by decide +kernel
theorem dX5_takeLock_26 : decode cX5_takeLock 26 = .ok (.aload_n 0, 1) := by decide +kernel
theorem dX5_takeLock_27 : decode cX5_takeLock 27 = .ok (.getfield 80, 3) := by decide +kernel
theorem dX5_takeLock_30 : decode cX5_takeLock 30 = .ok (.istore_n 2, 1) := by decide +kernel
theorem dX5_takeLock_31 : decode cX5_takeLock 31 = .ok (.aload_n 0, 1) := by decide +kernel
theorem dX5_takeLock_32 : decode cX5_takeLock 32 = .ok (.iconst 0, 1) := by decide +kernel
theorem dX5_takeLock_33 : decode cX5_takeLock 33 = .ok (.bipush 7, 2) := by decide +kernel
theorem dX5_takeLock_35 : decode cX5_takeLock 35 = .ok (.invokevirtual 76, 3) := by decide +kernel
theorem dX5_takeLock_38 : decode cX5_takeLock 38 = .ok (.ifCond .ne 5, 3) := by decide +kernel
theorem dX5_takeLock_41 : decode cX5_takeLock 41 = .ok (.iconst 0, 1) := by decide +kernel
theorem dX5_takeLock_42 : decode cX5_takeLock 42 = .ok (.ireturn, 1) := by decide +kernel
theorem dX5_takeLock_43 : decode cX5_takeLock 43 = .ok (.aload_n 0, 1) := by decide +kernel
theorem dX5_takeLock_44 : decode cX5_takeLock 44 = .ok (.getfield 80, 3) := by decide +kernel
theorem dX5_takeLock_47 : decode cX5_takeLock 47 = .ok (.iload_n 2, 1) := by decide +kernel
theorem dX5_takeLock_48 : decode cX5_takeLock 48 = .ok (.if_icmp .ne 9, 3) := by decide +kernel
theorem dX5_takeLock_51 : decode cX5_takeLock 51 = .ok (.aload_n 0, 1) := by decide +kernel
theorem dX5_takeLock_52 : decode cX5_takeLock 52 = .ok (.iconst 3, 1) := by decide +kernel
theorem dX5_takeLock_53 : decode cX5_takeLock 53 = .ok (.invokevirtual 69, 3) := by decide +kernel
theorem dX5_takeLock_56 : decode cX5_takeLock 56 = .ok (.ireturn, 1) := by decide +kernel
theorem dX5_takeLock_57 : decode cX5_takeLock 57 = .ok (.aload_n 1, 1) := by decide +kernel
theorem dX5_takeLock_58 : decode cX5_takeLock 58 = .ok (.getfield 98, 3) := by decide +kernel
theorem dX5_takeLock_61 : decode cX5_takeLock 61 = .ok (.iconst 2, 1) := by decide +kernel
theorem dX5_takeLock_62 : decode cX5_takeLock 62 = .ok (.aload_n 1, 1) := by decide +kernel
theorem dX5_takeLock_63 : decode cX5_takeLock 63 = .ok (.getfield 95, 3) := by decide +kernel
theorem dX5_takeLock_66 : decode cX5_takeLock 66 = .ok (.imul, 1) := by decide +kernel
theorem dX5_takeLock_67 : decode cX5_takeLock 67 = .ok (.iload_n 2, 1) := by decide +kernel
theorem dX5_takeLock_68 : decode cX5_takeLock 68 = .ok (.iastore, 1) := by decide +kernel
theorem dX5_takeLock_69 : decode cX5_takeLock 69 = .ok (.aload_n 1, 1) := by decide +kernel
theorem dX5_takeLock_70 : decode cX5_takeLock 70 = .ok (.getfield 98, 3) := by decide +kernel
theorem dX5_takeLock_73 : decode cX5_takeLock 73 = .ok (.iconst 2, 1) := by decide +kernel
theorem dX5_takeLock_74 : decode cX5_takeLock 74 = .ok (.aload_n 1, 1) := by decide +kernel
theorem dX5_takeLock_75 : decode cX5_takeLock 75 = .ok (.getfield 95, 3) := by decide +kernel
theorem dX5_takeLock_78 : decode cX5_takeLock 78 = .ok (.imul, 1) := by decide +kernel
theorem dX5_takeLock_79 : decode cX5_takeLock 79 = .ok (.iconst 1, 1) := by decide +kernel
theorem dX5_takeLock_80 : decode cX5_takeLock 80 = .ok (.iadd, 1) := by decide +kernel
theorem dX5_takeLock_81 : decode cX5_takeLock 81 = .ok (.aload_n 0, 1) := by decide +kernel
theorem dX5_takeLock_82 : decode cX5_takeLock 82 = .ok (.getfield 80, 3) := by decide +kernel
theorem dX5_takeLock_85 : decode cX5_takeLock 85 = .ok (.iastore, 1) := by decide +kernel
theorem dX5_takeLock_86 : decode cX5_takeLock 86 = .ok (.aload_n 1, 1) := by decide +kernel
theorem dX5_takeLock_87 : decode cX5_takeLock 87 = .ok (.dup, 1) := by decide +kernel
theorem dX5_takeLock_88 : decode cX5_takeLock 88 = .ok (.getfield 95, 3) := by decide +kernel
theorem dX5_takeLock_91 : decode cX5_takeLock 91 = .ok (.iconst 1, 1) := by decide +kernel
theorem dX5_takeLock_92 : decode cX5_takeLock 92 = .ok (.iadd, 1) := by decide +kernel
theorem dX5_takeLock_93 : decode cX5_takeLock 93 = .ok (.putfield 95, 3) := by decide +kernel
theorem dX5_takeLock_96 : decode cX5_takeLock 96 = .ok (.iconst 1, 1) := by decide +kernel
theorem dX5_takeLock_97 : decode cX5_takeLock 97 = .ok (.ireturn, 1) := by decide +kernel
theorem dX5_takeTrain_0 : decode cX5_takeTrain 0 = .ok (.aload_n 1, 1) := by decide +kernel
theorem dX5_takeTrain_1 : decode cX5_takeTrain 1 = .ok (.getfield 101, 3) := by decide +kernel
theorem dX5_takeTrain_4 : decode cX5_takeTrain 4 = .ok (.istore_n 3, 1) := by decide +kernel
theorem dX5_takeTrain_5 : decode cX5_takeTrain 5 = .ok (.iload_n 3, 1) := by decide +kernel
theorem dX5_takeTrain_6 : decode cX5_takeTrain 6 = .ok (.iconst 4, 1) := by decide +kernel
theorem dX5_takeTrain_7 : decode cX5_takeTrain 7 = .ok (.if_icmp .lt 9, 3) := by decide +kernel
theorem dX5_takeTrain_10 : decode cX5_takeTrain 10 = .ok (.aload_n 0, 1) := by decide +kernel
theorem dX5_takeTrain_11 : decode cX5_takeTrain 11 = .ok (.iconst 5, 1) := by decide +kernel
theorem dX5_takeTrain_12 : decode cX5_takeTrain 12 = .ok (.invokevirtual 69, 3) := by decide +kernel
theorem dX5_takeTrain_15 : decode cX5_takeTrain 15 = .ok (.ireturn, 1) := by decide +kernel
theorem dX5_takeTrain_16 : decode cX5_takeTrain 16 = .ok (.aload_n 1, 1) := by decide +kernel
theorem dX5_takeTrain_17 : decode cX5_takeTrain 17 = .ok (.iload_n 3, 1) := by decide +kernel
theorem dX5_takeTrain_18 : decode cX5_takeTrain 18 = .ok (.iconst 0, 1) := by decide +kernel
theorem dX5_takeTrain_19 : decode cX5_takeTrain 19 = .ok (.iload_n 2, 1) := by decide +kernel
theorem dX5_takeTrain_20 : decode cX5_takeTrain 20 = .ok (.invokevirtual 104, 3) := by decide +kernel
theorem dX5_takeTrain_23 : decode cX5_takeTrain 23 = .ok (.aload_n 0, 1) := by decide +kernel
theorem dX5_takeTrain_24 : decode cX5_takeTrain 24 = .ok (.invokevirtual 108, 3) := by decide +kernel
theorem dX5_takeTrain_27 : decode cX5_takeTrain 27 = .ok (.ifCond .ne 5, 3) := by decide +kernel
theorem dX5_takeTrain_30 : decode cX5_takeTrain 30 = .ok (.iconst 0, 1) := by decide +kernel
theorem dX5_takeTrain_31 : decode cX5_takeTrain 31 = .ok (.ireturn, 1) := by decide +kernel
theorem dX5_takeTrain_32 : decode cX5_takeTrain 32 = .ok (.aload_n 1, 1) := by decide +kernel
theorem dX5_takeTrain_33 : decode cX5_takeTrain 33 = .ok (.iload_n 3, 1) := by decide +kernel
theorem dX5_takeTrain_34 : decode cX5_takeTrain 34 = .ok (.iconst 1, 1) := by decide +kernel
theorem dX5_takeTrain_35 : decode cX5_takeTrain 35 = .ok (.aload_n 0, 1) := by decide +kernel
theorem dX5_takeTrain_36 : decode cX5_takeTrain 36 = .ok (.getfield 80, 3) := by decide +kernel
theorem dX5_takeTrain_39 : decode cX5_takeTrain 39 = .ok (.invokevirtual 104, 3) := by decide +kernel
theorem dX5_takeTrain_42 : decode cX5_takeTrain 42 = .ok (.aload_n 0, 1) := by decide +kernel
theorem dX5_takeTrain_43 : decode cX5_takeTrain 43 = .ok (.iconst 0, 1) := by decide +kernel
theorem dX5_takeTrain_44 : decode cX5_takeTrain 44 = .ok (.getstatic 111, 3) := by decide +kernel
theorem dX5_takeTrain_47 : decode cX5_takeTrain 47 = .ok (.iconst 2, 1) := by decide +kernel
theorem dX5_takeTrain_48 : decode cX5_takeTrain 48 = .ok (.iaload, 1) := by decide +kernel
theorem dX5_takeTrain_49 : decode cX5_takeTrain 49 = .ok (.iconst 1, 1) := by decide +kernel
theorem dX5_takeTrain_50 : decode cX5_takeTrain 50 = .ok (.isub, 1) := by decide +kernel
theorem dX5_takeTrain_51 : decode cX5_takeTrain 51 = .ok (.invokevirtual 76, 3) := by decide +kernel
theorem dX5_takeTrain_54 : decode cX5_takeTrain 54 = .ok (.ifCond .ne 5, 3) := by decide +kernel
theorem dX5_takeTrain_57 : decode cX5_takeTrain 57 = .ok (.iconst 0, 1) := by decide +kernel
theorem dX5_takeTrain_58 : decode cX5_takeTrain 58 = .ok (.ireturn, 1) := by decide +kernel
theorem dX5_takeTrain_59 : decode cX5_takeTrain 59 = .ok (.aload_n 1, 1) := by decide +kernel
theorem dX5_takeTrain_60 : decode cX5_takeTrain 60 = .ok (.iload_n 3, 1) := by decide +kernel
theorem dX5_takeTrain_61 : decode cX5_takeTrain 61 = .ok (.iconst 2, 1) := by decide +kernel
theorem dX5_takeTrain_62 : decode cX5_takeTrain 62 = .ok (.aload_n 0, 1) := by decide +kernel
theorem dX5_takeTrain_63 : decode cX5_takeTrain 63 = .ok (.getfield 80, 3) := by decide +kernel
theorem dX5_takeTrain_66 : decode cX5_takeTrain 66 = .ok (.invokevirtual 104, 3) := by decide +kernel
theorem dX5_takeTrain_69 : decode cX5_takeTrain 69 = .ok (.aload_n 0, 1) := by decide +kernel
theorem dX5_takeTrain_70 : decode cX5_takeTrain 70 = .ok (.iconst 0, 1) := by decide +kernel
theorem dX5_takeTrain_71 : decode cX5_takeTrain 71 = .ok (.getstatic 111, 3) := by decide +kernel
theorem dX5_takeTrain_74 : decode cX5_takeTrain 74 = .ok (.iconst 3, 1) := by decide +kernel
theorem dX5_takeTrain_75 : decode cX5_takeTrain 75 = .ok (.iaload, 1) := by decide +kernel
theorem dX5_takeTrain_76 : decode cX5_takeTrain 76 = .ok (.iconst 1, 1) := by decide +kernel
theorem dX5_takeTrain_77 : decode cX5_takeTrain 77 = .ok (.isub, 1) := by decide +kernel
theorem dX5_takeTrain_78 : decode cX5_takeTrain 78 = .ok (.invokevirtual 76, 3) := by decide +kernel
theorem dX5_takeTrain_81 : decode cX5_takeTrain 81 = .ok (.ifCond .ne 5, 3) := by decide +kernel
theorem dX5_takeTrain_84 : decode cX5_takeTrain 84 = .ok (.iconst 0, 1) := by decide +kernel
theorem dX5_takeTrain_85 : decode cX5_takeTrain 85 = .ok (.ireturn, 1) := by decide +kernel
theorem dX5_takeTrain_86 : decode cX5_takeTrain 86 = .ok (.aload_n 1, 1) := by decide +kernel
theorem dX5_takeTrain_87 : decode cX5_takeTrain 87 = .ok (.iload_n 3, 1) := by decide +kernel
theorem dX5_takeTrain_88 : decode cX5_takeTrain 88 = .ok (.iconst 3, 1) := by decide +kernel
theorem dX5_takeTrain_89 : decode cX5_takeTrain 89 = .ok (.aload_n 0, 1) := by decide +kernel
theorem dX5_takeTrain_90 : decode cX5_takeTrain 90 = .ok (.getfield 80, 3) := by decide +kernel
theorem dX5_takeTrain_93 : decode cX5_takeTrain 93 = .ok (.invokevirtual 104, 3) := by decide +kernel
theorem dX5_takeTrain_96 : decode cX5_takeTrain 96 = .ok (.aload_n 1, 1) := by decide +kernel
theorem dX5_takeTrain_97 : decode cX5_takeTrain 97 = .ok (.dup, 1) := by decide +kernel
theorem dX5_takeTrain_98 : decode cX5_takeTrain 98 = .ok (.getfield 101, 3) := by decide +kernel
theorem dX5_takeTrain_101 : decode cX5_takeTrain 101 = .ok (.iconst 1, 1) := by decide +kernel
theorem dX5_takeTrain_102 : decode cX5_takeTrain 102 = .ok (.iadd, 1) := by decide +kernel
theorem dX5_takeTrain_103 : decode cX5_takeTrain 103 = .ok (.putfield 101, 3) := by decide +kernel
theorem dX5_takeTrain_106 : decode cX5_takeTrain 106 = .ok (.iconst 1, 1) := by decide +kernel
theorem dX5_takeTrain_107 : decode cX5_takeTrain 107 = .ok (.ireturn, 1) := by decide +kernel
theorem dX5_takeWay_0 : decode cX5_takeWay 0 = .ok (.aload_n 0, 1) := by decide +kernel
theorem dX5_takeWay_1 : decode cX5_takeWay 1 = .ok (.invokevirtual 42, 3) := by decide +kernel
theorem dX5_takeWay_4 : decode cX5_takeWay 4 = .ok (.ifCond .ne 5, 3) := by decide +kernel
theorem dX5_takeWay_7 : decode cX5_takeWay 7 = .ok (.iconst 0, 1) := by decide +kernel
theorem dX5_takeWay_8 : decode cX5_takeWay 8 = .ok (.ireturn, 1) := by decide +kernel
theorem dX5_takeWay_9 : decode cX5_takeWay 9 = .ok (.aload_n 0, 1) := by decide +kernel
theorem dX5_takeWay_10 : decode cX5_takeWay 10 = .ok (.invokevirtual 49, 3) := by decide +kernel
theorem dX5_takeWay_13 : decode cX5_takeWay 13 = .ok (.istore_n 1, 1) := by decide +kernel
theorem dX5_takeWay_14 : decode cX5_takeWay 14 = .ok (.iload_n 1, 1) := by decide +kernel
theorem dX5_takeWay_15 : decode cX5_takeWay 15 = .ok (.bipush 11, 2) := by decide +kernel
theorem dX5_takeWay_17 : decode cX5_takeWay 17 = .ok (.if_icmp .ge 9, 3) := by decide +kernel
theorem dX5_takeWay_20 : decode cX5_takeWay 20 = .ok (.aload_n 0, 1) := by decide +kernel
theorem dX5_takeWay_21 : decode cX5_takeWay 21 = .ok (.iconst 2, 1) := by decide +kernel
theorem dX5_takeWay_22 : decode cX5_takeWay 22 = .ok (.invokevirtual 69, 3) := by decide +kernel
theorem dX5_takeWay_25 : decode cX5_takeWay 25 = .ok (.ireturn, 1) := by decide +kernel
theorem dX5_takeWay_26 : decode cX5_takeWay 26 = .ok (.aload_n 0, 1) := by decide +kernel
theorem dX5_takeWay_27 : decode cX5_takeWay 27 = .ok (.iload_n 1, 1) := by decide +kernel
theorem dX5_takeWay_28 : decode cX5_takeWay 28 = .ok (.bipush 11, 2) := by decide +kernel
theorem dX5_takeWay_30 : decode cX5_takeWay 30 = .ok (.isub, 1) := by decide +kernel
theorem dX5_takeWay_31 : decode cX5_takeWay 31 = .ok (.putfield 80, 3) := by decide +kernel
theorem dX5_takeWay_34 : decode cX5_takeWay 34 = .ok (.iconst 1, 1) := by decide +kernel
theorem dX5_takeWay_35 : decode cX5_takeWay 35 = .ok (.ireturn, 1) := by decide +kernel
theorem dX5_takeNumber_0 : decode cX5_takeNumber 0 = .ok (.aload_n 0, 1) := by decide +kernel
theorem dX5_takeNumber_1 : decode cX5_takeNumber 1 = .ok (.invokevirtual 42, 3) := by decide +kernel
theorem dX5_takeNumber_4 : decode cX5_takeNumber 4 = .ok (.ifCond .ne 5, 3) := by decide +kernel
theorem dX5_takeNumber_7 : decode cX5_takeNumber 7 = .ok (.iconst 0, 1) := by decide +kernel
theorem dX5_takeNumber_8 : decode cX5_takeNumber 8 = .ok (.ireturn, 1) := by decide +kernel
theorem dX5_takeNumber_9 : decode cX5_takeNumber 9 = .ok (.aload_n 0, 1) := by decide +kernel
theorem dX5_takeNumber_10 : decode cX5_takeNumber 10 = .ok (.getfield 46, 3) := by decide +kernel
theorem dX5_takeNumber_13 : decode cX5_takeNumber 13 = .ok (.iconst 2, 1) := by decide +kernel
theorem dX5_takeNumber_14 : decode cX5_takeNumber 14 = .ok (.if_icmp .eq 9, 3) := by decide +kernel
theorem dX5_takeNumber_17 : decode cX5_takeNumber 17 = .ok (.aload_n 0, 1) := by decide +kernel
theorem dX5_takeNumber_18 : decode cX5_takeNumber 18 = .ok (.iconst 2, 1) := by decide +kernel
theorem dX5_takeNumber_19 : decode cX5_takeNumber 19 = .ok (.invokevirtual 69, 3) := by decide +kernel
theorem dX5_takeNumber_22 : decode cX5_takeNumber 22 = .ok (.ireturn, 1) := by decide +kernel
theorem dX5_takeNumber_23 : decode cX5_takeNumber 23 = .ok (.aload_n 0, 1) := by decide +kernel
theorem dX5_takeNumber_24 : decode cX5_takeNumber 24 = .ok (.getfield 80, 3) := by decide +kernel
theorem dX5_takeNumber_27 : decode cX5_takeNumber 27 = .ok (.iload_n 1, 1) := by decide +kernel
theorem dX5_takeNumber_28 : decode cX5_takeNumber 28 = .ok (.if_icmp .lt 11, 3) := by decide +kernel
theorem dX5_takeNumber_31 : decode cX5_takeNumber 31 = .ok (.aload_n 0, 1) := by decide +kernel
theorem dX5_takeNumber_32 : decode cX5_takeNumber 32 = .ok (.getfield 80, 3) := by decide +kernel
theorem dX5_takeNumber_35 : decode cX5_takeNumber 35 = .ok (.iload_n 2, 1) := by decide +kernel
theorem dX5_takeNumber_36 : decode cX5_takeNumber 36 = .ok (.if_icmp .le 11, 3) := by decide +kernel
theorem dX5_takeNumber_39 : decode cX5_takeNumber 39 = .ok (.aload_n 0, 1) := by decide +kernel
theorem dX5_takeNumber_40 : decode cX5_takeNumber 40 = .ok (.iconst 3, 1) := by decide +kernel
theorem dX5_takeNumber_41 : decode cX5_takeNumber 41 = .ok (.invokevirtual 69, 3) := by decide +kernel
theorem dX5_takeNumber_44 : decode cX5_takeNumber 44 = .ok (.ifCond .eq 7, 3) := by decide +kernel
theorem dX5_takeNumber_47 : decode cX5_takeNumber 47 = .ok (.iconst 1, 1) := by decide +kernel
theorem dX5_takeNumber_48 : decode cX5_takeNumber 48 = .ok (.goto 4, 3) := by decide +kernel
theorem dX5_takeNumber_51 : decode cX5_takeNumber 51 = .ok (.iconst 0, 1) := by decide +kernel
theorem dX5_takeNumber_52 : decode cX5_takeNumber 52 = .ok (.ireturn, 1) := by decide +kernel
theorem dX5_takeSemicolon_0 : decode cX5_takeSemicolon 0 = .ok (.aload_n 0, 1) := by decide +kernel
theorem dX5_takeSemicolon_1 : decode cX5_takeSemicolon 1 = .ok (.invokevirtual 42, 3) := by decide +kernel
theorem dX5_takeSemicolon_4 : decode cX5_takeSemicolon 4 = .ok (.ifCond .eq 23, 3) := by decide +kernel
theorem dX5_takeSemicolon_7 : decode cX5_takeSemicolon 7 = .ok (.aload_n 0, 1) := by decide +kernel
theorem dX5_takeSemicolon_8 : decode cX5_takeSemicolon 8 = .ok (.getfield 46, 3) := by decide +kernel
theorem dX5_takeSemicolon_11 : decode cX5_takeSemicolon 11 = .ok (.iconst 3, 1) := by decide +kernel
theorem dX5_takeSemicolon_12 : decode cX5_takeSemicolon 12 = .ok (.if_icmp .eq 11, 3) := by decide +kernel
theorem dX5_takeSemicolon_15 : decode cX5_takeSemicolon 15 = .ok (.aload_n 0, 1) := by decide +kernel
theorem dX5_takeSemicolon_16 : decode cX5_takeSemicolon 16 = .ok (.iconst 2, 1) := by decide +kernel
theorem dX5_takeSemicolon_17 : decode cX5_takeSemicolon 17 = .ok (.invokevirtual 69, 3) := by decide +kernel
theorem dX5_takeSemicolon_20 : decode cX5_takeSemicolon 20 = .ok (.ifCond .eq 7, 3) := by decide +kernel
theorem dX5_takeSemicolon_23 : decode cX5_takeSemicolon 23 = .ok (.iconst 1, 1) := by decide +kernel
theorem dX5_takeSemicolon_24 : decode cX5_takeSemicolon 24 = .ok (.goto 4, 3) := by decide +kernel
theorem dX5_takeSemicolon_27 : decode cX5_takeSemicolon 27 = .ok (.iconst 0, 1) := by decide +kernel
theorem dX5_takeSemicolon_28 : decode cX5_takeSemicolon 28 = .ok (.ireturn, 1) := by decide +kernel
theorem dX5_checkWhole_0 : decode cX5_checkWhole 0 = .ok (.aload_n 1, 1) := by decide +kernel
theorem dX5_checkWhole_1 : decode cX5_checkWhole 1 = .ok (.invokevirtual 114, 3) := by decide +kernel
theorem dX5_checkWhole_4 : decode cX5_checkWhole 4 = .ok (.aload_n 1, 1) := by decide +kernel
theorem dX5_checkWhole_5 : decode cX5_checkWhole 5 = .ok (.getfield 92, 3) := by decide +kernel
theorem dX5_checkWhole_8 : decode cX5_checkWhole 8 = .ok (.ior, 1) := by decide +kernel
theorem dX5_checkWhole_9 : decode cX5_checkWhole 9 = .ok (.aload_n 1, 1) := by decide +kernel
theorem dX5_checkWhole_10 : decode cX5_checkWhole 10 = .ok (.invokevirtual 117, 3) := by decide +kernel
theorem dX5_checkWhole_13 : decode cX5_checkWhole 13 = .ok (.ior, 1) := by decide +kernel
theorem dX5_checkWhole_14 : decode cX5_checkWhole 14 = .ok (.istore_n 2, 1) := by decide +kernel
theorem dX5_checkWhole_15 : decode cX5_checkWhole 15 = .ok (.iload_n 2, 1) := by decide +kernel
theorem dX5_checkWhole_16 : decode cX5_checkWhole 16 = .ok (.aload_n 1, 1) := by decide +kernel
theorem dX5_checkWhole_17 : decode cX5_checkWhole 17 = .ok (.getfield 83, 3) := by decide +kernel
theorem dX5_checkWhole_20 : decode cX5_checkWhole 20 = .ok (.ishr, 1) := by decide +kernel
theorem dX5_checkWhole_21 : decode cX5_checkWhole 21 = .ok (.ifCond .eq 13, 3) := by decide +kernel
theorem dX5_checkWhole_24 : decode cX5_checkWhole 24 = .ok (.aload_n 0, 1) := by decide +kernel
theorem dX5_checkWhole_25 : decode cX5_checkWhole 25 = .ok (.bipush 6, 2) := by decide +kernel
theorem dX5_checkWhole_27 : decode cX5_checkWhole 27 = .ok (.invokevirtual 69, 3) := by decide +kernel
theorem dX5_checkWhole_30 : decode cX5_checkWhole 30 = .ok (.pop, 1) := by decide +kernel
theorem dX5_checkWhole_31 : decode cX5_checkWhole 31 = .ok (.goto 21, 3) := by decide +kernel
theorem dX5_checkWhole_34 : decode cX5_checkWhole 34 = .ok (.aload_n 1, 1) := by decide +kernel
theorem dX5_checkWhole_35 : decode cX5_checkWhole 35 = .ok (.aload_n 1, 1) := by decide +kernel
theorem dX5_checkWhole_36 : decode cX5_checkWhole 36 = .ok (.invokevirtual 114, 3) := by decide +kernel
theorem dX5_checkWhole_39 : decode cX5_checkWhole 39 = .ok (.invokevirtual 120, 3) := by decide +kernel
theorem dX5_checkWhole_42 : decode cX5_checkWhole 42 = .ok (.ifCond .ne 10, 3) := by decide +kernel
theorem dX5_checkWhole_45 : decode cX5_checkWhole 45 = .ok (.aload_n 0, 1) := by decide +kernel
theorem dX5_checkWhole_46 : decode cX5_checkWhole 46 = .ok (.bipush 7, 2) := by decide +kernel
theorem dX5_checkWhole_48 : decode cX5_checkWhole 48 = .ok (.invokevirtual 69, 3) := by decide +kernel
theorem dX5_checkWhole_51 : decode cX5_checkWhole 51 = .ok (.pop, 1) := by decide +kernel
theorem dX5_checkWhole_52 : decode cX5_checkWhole 52 = .ok (.return_, 1) := by decide +kernel
theorem dX5_blame_0 : decode cX5_blame 0 = .ok (.aload_n 0, 1) := by decide +kernel
theorem dX5_blame_1 : decode cX5_blame 1 = .ok (.iload_n 1, 1) := by decide +kernel
theorem dX5_blame_2 : decode cX5_blame 2 = .ok (.putfield 24, 3) := by decide +kernel
theorem dX5_blame_5 : decode cX5_blame 5 = .ok (.aload_n 0, 1) := by decide +kernel
theorem dX5_blame_6 : decode cX5_blame 6 = .ok (.aload_n 0, 1) := by decide +kernel
theorem dX5_blame_7 : decode cX5_blame 7 = .ok (.getfield 123, 3) := by decide +kernel
theorem dX5_blame_10 : decode cX5_blame 10 = .ok (.putfield 126, 3) := by decide +kernel
theorem dX5_blame_13 : decode cX5_blame 13 = .ok (.iconst 0, 1) := by decide +kernel
theorem dX5_blame_14 : decode cX5_blame 14 = .ok (.ireturn, 1) := by decide +kernel
theorem dX5_nextToken_0 : decode cX5_nextToken 0 = .ok (.aload_n 0, 1) := by decide +kernel
theorem dX5_nextToken_1 : decode cX5_nextToken 1 = .ok (.aload_n 0, 1) := by decide +kernel
theorem dX5_nextToken_2 : decode cX5_nextToken 2 = .ok (.bipush 32, 2) := by decide +kernel
theorem dX5_nextToken_4 : decode cX5_nextToken 4 = .ok (.bipush 32, 2) := by decide +kernel
theorem dX5_nextToken_6 : decode cX5_nextToken 6 = .ok (.aload_n 0, 1) := by decide +kernel
theorem dX5_nextToken_7 : decode cX5_nextToken 7 = .ok (.getfield 31, 3) := by decide +kernel
theorem dX5_nextToken_10 : decode cX5_nextToken 10 = .ok (.invokevirtual 129, 3) := by decide +kernel
theorem dX5_nextToken_13 : decode cX5_nextToken 13 = .ok (.putfield 31, 3) := by decide +kernel
theorem dX5_nextToken_16 : decode cX5_nextToken 16 = .ok (.aload_n 0, 1) := by decide +kernel
theorem dX5_nextToken_17 : decode cX5_nextToken 17 = .ok (.aload_n 0, 1) := by decide +kernel
theorem dX5_nextToken_18 : decode cX5_nextToken 18 = .ok (.getfield 31, 3) := by decide +kernel
theorem dX5_nextToken_21 : decode cX5_nextToken 21 = .ok (.putfield 123, 3) := by decide +kernel
theorem dX5_nextToken_24 : decode cX5_nextToken 24 = .ok (.aload_n 0, 1) := by decide +kernel
theorem dX5_nextToken_25 : decode cX5_nextToken 25 = .ok (.getfield 123, 3) := by decide +kernel
theorem dX5_nextToken_28 : decode cX5_nextToken 28 = .ok (.aload_n 0, 1) := by decide +kernel
theorem dX5_nextToken_29 : decode cX5_nextToken 29 = .ok (.getfield 15, 3) := by decide +kernel
theorem dX5_nextToken_32 : decode cX5_nextToken 32 = .ok (.if_icmp .lt 10, 3) := by decide +kernel
theorem dX5_nextToken_35 : decode cX5_nextToken 35 = .ok (.aload_n 0, 1) := by decide +kernel
theorem dX5_nextToken_36 : decode cX5_nextToken 36 = .ok (.iconst 0, 1) := by decide +kernel
theorem dX5_nextToken_37 : decode cX5_nextToken 37 = .ok (.putfield 46, 3) := by decide +kernel
theorem dX5_nextToken_40 : decode cX5_nextToken 40 = .ok (.iconst 1, 1) := by decide +kernel
theorem dX5_nextToken_41 : decode cX5_nextToken 41 = .ok (.ireturn, 1) := by decide +kernel
theorem dX5_nextToken_42 : decode cX5_nextToken 42 = .ok (.aload_n 0, 1) := by decide +kernel
theorem dX5_nextToken_43 : decode cX5_nextToken 43 = .ok (.getfield 9, 3) := by decide +kernel
theorem dX5_nextToken_46 : decode cX5_nextToken 46 = .ok (.aload_n 0, 1) := by decide +kernel
theorem dX5_nextToken_47 : decode cX5_nextToken 47 = .ok (.getfield 123, 3) := by decide +kernel
theorem dX5_nextToken_50 : decode cX5_nextToken 50 = .ok (.iaload, 1) := by decide +kernel
theorem dX5_nextToken_51 : decode cX5_nextToken 51 = .ok (.istore_n 1, 1) := by decide +kernel
theorem dX5_nextToken_52 : decode cX5_nextToken 52 = .ok (.iload_n 1, 1) := by decide +kernel
theorem dX5_nextToken_53 : decode cX5_nextToken 53 = .ok (.bipush 97, 2) := by decide +kernel
theorem dX5_nextToken_55 : decode cX5_nextToken 55 = .ok (.if_icmp .lt 32, 3) := by decide +kernel
theorem dX5_nextToken_58 : decode cX5_nextToken 58 = .ok (.iload_n 1, 1) := by decide +kernel
theorem dX5_nextToken_59 : decode cX5_nextToken 59 = .ok (.bipush 122, 2) := by decide +kernel
theorem dX5_nextToken_61 : decode cX5_nextToken 61 = .ok (.if_icmp .gt 26, 3) := by decide +kernel
theorem dX5_nextToken_64 : decode cX5_nextToken 64 = .ok (.aload_n 0, 1) := by decide +kernel
theorem dX5_nextToken_65 : decode cX5_nextToken 65 = .ok (.iconst 1, 1) := by decide +kernel
theorem dX5_nextToken_66 : decode cX5_nextToken 66 = .ok (.putfield 46, 3) := by decide +kernel
theorem dX5_nextToken_69 : decode cX5_nextToken 69 = .ok (.aload_n 0, 1) := by decide +kernel
theorem dX5_nextToken_70 : decode cX5_nextToken 70 = .ok (.aload_n 0, 1) := by decide +kernel
theorem dX5_nextToken_71 : decode cX5_nextToken 71 = .ok (.bipush 97, 2) := by decide +kernel
theorem dX5_nextToken_73 : decode cX5_nextToken 73 = .ok (.bipush 122, 2) := by decide +kernel
theorem dX5_nextToken_75 : decode cX5_nextToken 75 = .ok (.aload_n 0, 1) := by decide +kernel
theorem dX5_nextToken_76 : decode cX5_nextToken 76 = .ok (.getfield 123, 3) := by decide +kernel
theorem dX5_nextToken_79 : decode cX5_nextToken 79 = .ok (.invokevirtual 129, 3) := by decide +kernel
theorem dX5_nextToken_82 : decode cX5_nextToken 82 = .ok (.putfield 31, 3) := by decide +kernel
theorem dX5_nextToken_85 : decode cX5_nextToken 85 = .ok (.iconst 1, 1) := by decide +kernel
theorem dX5_nextToken_86 : decode cX5_nextToken 86 = .ok (.ireturn, 1) := by decide +kernel
theorem dX5_nextToken_87 : decode cX5_nextToken 87 = .ok (.iload_n 1, 1) := by decide +kernel
theorem dX5_nextToken_88 : decode cX5_nextToken 88 = .ok (.bipush 48, 2) := by decide +kernel
theorem dX5_nextToken_90 : decode cX5_nextToken 90 = .ok (.if_icmp .lt 65, 3) := by decide +kernel
theorem dX5_nextToken_93 : decode cX5_nextToken 93 = .ok (.iload_n 1, 1) := by decide +kernel
theorem dX5_nextToken_94 : decode cX5_nextToken 94 = .ok (.bipush 57, 2) := by decide +kernel
theorem dX5_nextToken_96 : decode cX5_nextToken 96 = .ok (.if_icmp .gt 59, 3) := by decide +kernel
theorem dX5_nextToken_99 : decode cX5_nextToken 99 = .ok (.aload_n 0, 1) := by decide +kernel
theorem dX5_nextToken_100 : decode cX5_nextToken 100 = .ok (.iconst 2, 1) := by decide +kernel
theorem dX5_nextToken_101 : decode cX5_nextToken 101 = .ok (.putfield 46, 3) := by decide +kernel
theorem dX5_nextToken_104 : decode cX5_nextToken 104 = .ok (.aload_n 0, 1) := by decide +kernel
theorem dX5_nextToken_105 : decode cX5_nextToken 105 = .ok (.aload_n 0, 1) := by decide +kernel
theorem dX5_nextToken_106 : decode cX5_nextToken 106 = .ok (.bipush 48, 2) := by decide +kernel
theorem dX5_nextToken_108 : decode cX5_nextToken 108 = .ok (.bipush 57, 2) := by decide +kernel
theorem dX5_nextToken_110 : decode cX5_nextToken 110 = .ok (.aload_n 0, 1) := by decide +kernel
theorem dX5_nextToken_111 : decode cX5_nextToken 111 = .ok (.getfield 123, 3) := by decide +kernel
theorem dX5_nextToken_114 : decode cX5_nextToken 114 = .ok (.invokevirtual 129, 3) := by decide +kernel
theorem dX5_nextToken_117 : decode cX5_nextToken 117 = .ok (.putfield 31, 3) := by decide +kernel
theorem dX5_nextToken_120 : decode cX5_nextToken 120 = .ok (.aload_n 0, 1) := by decide +kernel
theorem dX5_nextToken_121 : decode cX5_nextToken 121 = .ok (.aload_n 0, 1) := by decide +kernel
theorem dX5_nextToken_122 : decode cX5_nextToken 122 = .ok (.invokevirtual 133, 3) := by decide +kernel
theorem dX5_nextToken_125 : decode cX5_nextToken 125 = .ok (.putfield 80, 3) := by decide +kernel
theorem dX5_nextToken_128 : decode cX5_nextToken 128 = .ok (.aload_n 0, 1) := by decide +kernel
theorem dX5_nextToken_129 : decode cX5_nextToken 129 = .ok (.getfield 31, 3) := by decide +kernel
theorem dX5_nextToken_132 : decode cX5_nextToken 132 = .ok (.aload_n 0, 1) := by decide +kernel
theorem dX5_nextToken_133 : decode cX5_nextToken 133 = .ok (.getfield 123, 3) := by decide +kernel
theorem dX5_nextToken_136 : decode cX5_nextToken 136 = .ok (.isub, 1) := by decide +kernel
theorem dX5_nextToken_137 : decode cX5_nextToken 137 = .ok (.iconst 2, 1) := by decide +kernel
theorem dX5_nextToken_138 : decode cX5_nextToken 138 = .ok (.if_icmp .le 11, 3) := by decide +kernel
theorem dX5_nextToken_141 : decode cX5_nextToken 141 = .ok (.aload_n 0, 1) := by decide +kernel
theorem dX5_nextToken_142 : decode cX5_nextToken 142 = .ok (.iconst 1, 1) := by decide +kernel
theorem dX5_nextToken_143 : decode cX5_nextToken 143 = .ok (.invokevirtual 69, 3) := by decide +kernel
theorem dX5_nextToken_146 : decode cX5_nextToken 146 = .ok (.ifCond .eq 7, 3) := by decide +kernel
theorem dX5_nextToken_149 : decode cX5_nextToken 149 = .ok (.iconst 1, 1) := by decide +kernel
theorem dX5_nextToken_150 : decode cX5_nextToken 150 = .ok (.goto 4, 3) := by decide +kernel
theorem dX5_nextToken_153 : decode cX5_nextToken 153 = .ok (.iconst 0, 1) := by decide +kernel
theorem dX5_nextToken_154 : decode cX5_nextToken 154 = .ok (.ireturn, 1) := by decide +kernel
theorem dX5_nextToken_155 : decode cX5_nextToken 155 = .ok (.aload_n 0, 1) := by decide +kernel
theorem dX5_nextToken_156 : decode cX5_nextToken 156 = .ok (.iconst 3, 1) := by decide +kernel
theorem dX5_nextToken_157 : decode cX5_nextToken 157 = .ok (.putfield 46, 3) := by decide +kernel
