theorem dX0_init_0 : decode cX0_init 0 = .ok (.aload_n 0, 1) := by decide +kernel
theorem dX0_init_1 : decode cX0_init 1 = .ok (.iload_n 1, 1) := by decide +kernel
theorem dX0_init_2 : decode cX0_init 2 = .ok (.iload_n 2, 1) := by decide +kernel
theorem dX0_init_3 : decode cX0_init 3 = .ok (.iload_n 3, 1) := by decide +kernel
theorem dX0_init_4 : decode cX0_init 4 = .ok (.iload 4, 2) := by decide +kernel
theorem dX0_init_6 : decode cX0_init 6 = .ok (.iload 5, 2) := by decide +kernel
theorem dX0_init_8 : decode cX0_init 8 = .ok (.iload 6, 2) := by decide +kernel
theorem dX0_init_10 : decode cX0_init 10 = .ok (.invokespecial 1, 3) := by decide +kernel
theorem dX0_init_13 : decode cX0_init 13 = .ok (.return_, 1) := by decide +kernel
theorem dX0_insteadOf_0 : decode cX0_insteadOf 0 = .ok (.new 7, 3) := by decide +kernel
theorem dX0_insteadOf_3 : decode cX0_insteadOf 3 = .ok (.dup, 1) := by decide +kernel
theorem dX0_insteadOf_4 : decode cX0_insteadOf 4 = .ok (.iload_n 1, 1) := by decide +kernel
theorem dX0_insteadOf_5 : decode cX0_insteadOf 5 = .ok (.aload_n 0, 1) := by decide +kernel
theorem dX0_insteadOf_6 : decode cX0_insteadOf 6 = .ok (.getfield 9, 3) := by decide +kernel
theorem dX0_insteadOf_9 : decode cX0_insteadOf 9 = .ok (.aload_n 0, 1) := by decide +kernel
theorem dX0_insteadOf_10 : decode cX0_insteadOf 10 = .ok (.getfield 13, 3) := by decide +kernel
theorem dX0_insteadOf_13 : decode cX0_insteadOf 13 = .ok (.aload_n 0, 1) := by decide +kernel
theorem dX0_insteadOf_14 : decode cX0_insteadOf 14 = .ok (.getfield 16, 3) := by decide +kernel
theorem dX0_insteadOf_17 : decode cX0_insteadOf 17 = .ok (.aload_n 0, 1) := by decide +kernel
theorem dX0_insteadOf_18 : decode cX0_insteadOf 18 = .ok (.getfield 19, 3) := by decide +kernel
theorem dX0_insteadOf_21 : decode cX0_insteadOf 21 = .ok (.aload_n 0, 1) := by decide +kernel
theorem dX0_insteadOf_22 : decode cX0_insteadOf 22 = .ok (.getfield 22, 3) := by decide +kernel
theorem dX0_insteadOf_25 : decode cX0_insteadOf 25 = .ok (.invokespecial 25, 3) := by decide +kernel
theorem dX0_insteadOf_28 : decode cX0_insteadOf 28 = .ok (.areturn, 1) := by decide +kernel
theorem dX0_kind_0 : decode cX0_kind 0 = .ok (.iconst 1, 1) := by decide +kernel
theorem dX0_kind_1 : decode cX0_kind 1 = .ok (.ireturn, 1) := by decide +kernel
theorem dX0_buysAt_0 : decode cX0_buysAt 0 = .ok (.aload_n 0, 1) := by decide +kernel
theorem dX0_buysAt_1 : decode cX0_buysAt 1 = .ok (.getfield 26, 3) := by decide +kernel
theorem dX0_buysAt_4 : decode cX0_buysAt 4 = .ok (.aload_n 0, 1) := by decide +kernel
theorem dX0_buysAt_5 : decode cX0_buysAt 5 = .ok (.getfield 27, 3) := by decide +kernel
theorem dX0_buysAt_8 : decode cX0_buysAt 8 = .ok (.isub, 1) := by decide +kernel
theorem dX0_buysAt_9 : decode cX0_buysAt 9 = .ok (.ireturn, 1) := by decide +kernel
theorem dX1_init_0 : decode cX1_init 0 = .ok (.aload_n 0, 1) := by decide +kernel
theorem dX1_init_1 : decode cX1_init 1 = .ok (.invokespecial 3, 3) := by decide +kernel
theorem dX1_init_4 : decode cX1_init 4 = .ok (.aload_n 0, 1) := by decide +kernel
theorem dX1_init_5 : decode cX1_init 5 = .ok (.bipush 36, 2) := by decide +kernel
theorem dX1_init_7 : decode cX1_init 7 = .ok (.newarray .int, 2) := by decide +kernel
theorem dX1_init_9 : decode cX1_init 9 = .ok (.putfield 9, 3) := by decide +kernel
theorem dX1_init_12 : decode cX1_init 12 = .ok (.return_, 1) := by decide +kernel
theorem dX1_copyFrom_0 : decode cX1_copyFrom 0 = .ok (.aload_n 1, 1) := by decide +kernel
theorem dX1_copyFrom_1 : decode cX1_copyFrom 1 = .ok (.getfield 9, 3) := by decide +kernel
theorem dX1_copyFrom_4 : decode cX1_copyFrom 4 = .ok (.iconst 0, 1) := by decide +kernel
theorem dX1_copyFrom_5 : decode cX1_copyFrom 5 = .ok (.aload_n 0, 1) := by decide +kernel
theorem dX1_copyFrom_6 : decode cX1_copyFrom 6 = .ok (.getfield 9, 3) := by decide +kernel
theorem dX1_copyFrom_9 : decode cX1_copyFrom 9 = .ok (.iconst 0, 1) := by decide +kernel
theorem dX1_copyFrom_10 : decode cX1_copyFrom 10 = .ok (.aload_n 0, 1) := by decide +kernel
theorem dX1_copyFrom_11 : decode cX1_copyFrom 11 = .ok (.getfield 9, 3) := by decide +kernel
theorem dX1_copyFrom_14 : decode cX1_copyFrom 14 = .ok (.arraylength, 1) := by decide +kernel
theorem dX1_copyFrom_15 : decode cX1_copyFrom 15 = .ok (.invokestatic 15, 3) := by decide +kernel
theorem dX1_copyFrom_18 : decode cX1_copyFrom 18 = .ok (.return_, 1) := by decide +kernel
theorem dX1_from_0 : decode cX1_from 0 = .ok (.aload_n 0, 1) := by decide +kernel
theorem dX1_from_1 : decode cX1_from 1 = .ok (.getfield 9, 3) := by decide +kernel
theorem dX1_from_4 : decode cX1_from 4 = .ok (.iload_n 1, 1) := by decide +kernel
theorem dX1_from_5 : decode cX1_from 5 = .ok (.bipush 6, 2) := by decide +kernel
theorem dX1_from_7 : decode cX1_from 7 = .ok (.imul, 1) := by decide +kernel
theorem dX1_from_8 : decode cX1_from 8 = .ok (.iload_n 2, 1) := by decide +kernel
theorem dX1_from_9 : decode cX1_from 9 = .ok (.iadd, 1) := by decide +kernel
theorem dX1_from_10 : decode cX1_from 10 = .ok (.iaload, 1) := by decide +kernel
theorem dX1_from_11 : decode cX1_from 11 = .ok (.ireturn, 1) := by decide +kernel
theorem dX1_put_0 : decode cX1_put 0 = .ok (.aload_n 0, 1) := by decide +kernel
theorem dX1_put_1 : decode cX1_put 1 = .ok (.getfield 9, 3) := by decide +kernel
theorem dX1_put_4 : decode cX1_put 4 = .ok (.iload_n 1, 1) := by decide +kernel
theorem dX1_put_5 : decode cX1_put 5 = .ok (.bipush 6, 2) := by decide +kernel
theorem dX1_put_7 : decode cX1_put 7 = .ok (.imul, 1) := by decide +kernel
theorem dX1_put_8 : decode cX1_put 8 = .ok (.iload_n 2, 1) := by decide +kernel
theorem dX1_put_9 : decode cX1_put 9 = .ok (.iadd, 1) := by decide +kernel
theorem dX1_put_10 : decode cX1_put 10 = .ok (.iload_n 3, 1) := by decide +kernel
theorem dX1_put_11 : decode cX1_put 11 = .ok (.iastore, 1) := by decide +kernel
theorem dX1_put_12 : decode cX1_put 12 = .ok (.return_, 1) := by decide +kernel
theorem dX1_total_0 : decode cX1_total 0 = .ok (.aload_n 0, 1) := by decide +kernel
theorem dX1_total_1 : decode cX1_total 1 = .ok (.getfield 9, 3) := by decide +kernel
theorem dX1_total_4 : decode cX1_total 4 = .ok (.invokestatic 21, 3) := by decide +kernel
theorem dX1_total_7 : decode cX1_total 7 = .ok (.ireturn, 1) := by decide +kernel
theorem dX1_owedTo_0 : decode cX1_owedTo 0 = .ok (.iconst 0, 1) := by decide +kernel
theorem dX1_owedTo_1 : decode cX1_owedTo 1 = .ok (.istore_n 2, 1) := by decide +kernel
theorem dX1_owedTo_2 : decode cX1_owedTo 2 = .ok (.iconst 0, 1) := by decide +kernel
theorem dX1_owedTo_3 : decode cX1_owedTo 3 = .ok (.istore_n 3, 1) := by decide +kernel
theorem dX1_owedTo_4 : decode cX1_owedTo 4 = .ok (.iload_n 3, 1) := by decide +kernel
theorem dX1_owedTo_5 : decode cX1_owedTo 5 = .ok (.bipush 6, 2) := by decide +kernel
theorem dX1_owedTo_7 : decode cX1_owedTo 7 = .ok (.if_icmp .ge 25, 3) := by decide +kernel
theorem dX1_owedTo_10 : decode cX1_owedTo 10 = .ok (.iload_n 2, 1) := by decide +kernel
theorem dX1_owedTo_11 : decode cX1_owedTo 11 = .ok (.aload_n 0, 1) := by decide +kernel
theorem dX1_owedTo_12 : decode cX1_owedTo 12 = .ok (.iload_n 3, 1) := by decide +kernel
theorem dX1_owedTo_13 : decode cX1_owedTo 13 = .ok (.iload_n 1, 1) := by decide +kernel
theorem dX1_owedTo_14 : decode cX1_owedTo 14 = .ok (.invokevirtual 25, 3) := by decide +kernel
theorem dX1_owedTo_17 : decode cX1_owedTo 17 = .ok (.aload_n 0, 1) := by decide +kernel
theorem dX1_owedTo_18 : decode cX1_owedTo 18 = .ok (.iload_n 1, 1) := by decide +kernel
theorem dX1_owedTo_19 : decode cX1_owedTo 19 = .ok (.iload_n 3, 1) := by decide +kernel
theorem dX1_owedTo_20 : decode cX1_owedTo 20 = .ok (.invokevirtual 25, 3) := by decide +kernel
theorem dX1_owedTo_23 : decode cX1_owedTo 23 = .ok (.isub, 1) := by decide +kernel
theorem dX1_owedTo_24 : decode cX1_owedTo 24 = .ok (.iadd, 1) := by decide +kernel
theorem dX1_owedTo_25 : decode cX1_owedTo 25 = .ok (.istore_n 2, 1) := by decide +kernel
theorem dX1_owedTo_26 : decode cX1_owedTo 26 = .ok (.iinc 3 1, 3) := by decide +kernel
theorem dX1_owedTo_29 : decode cX1_owedTo 29 = .ok (.goto (-25), 3) := by decide +kernel
theorem dX1_owedTo_32 : decode cX1_owedTo 32 = .ok (.iload_n 2, 1) := by decide +kernel
theorem dX1_owedTo_33 : decode cX1_owedTo 33 = .ok (.ireturn, 1) := by decide +kernel
theorem dX1_strikeRings_0 : decode cX1_strikeRings 0 = .ok (.iconst 0, 1) := by decide +kernel
theorem dX1_strikeRings_1 : decode cX1_strikeRings 1 = .ok (.istore_n 1, 1) := by decide +kernel
theorem dX1_strikeRings_2 : decode cX1_strikeRings 2 = .ok (.iconst 0, 1) := by decide +kernel
theorem dX1_strikeRings_3 : decode cX1_strikeRings 3 = .ok (.istore_n 2, 1) := by decide +kernel
theorem dX1_strikeRings_4 : decode cX1_strikeRings 4 = .ok (.iload_n 2, 1) := by decide +kernel
theorem dX1_strikeRings_5 : decode cX1_strikeRings 5 = .ok (.bipush 6, 2) := by decide +kernel
theorem dX1_strikeRings_7 : decode cX1_strikeRings 7 = .ok (.if_icmp .ge 34, 3) := by decide +kernel
theorem dX1_strikeRings_10 : decode cX1_strikeRings 10 = .ok (.iload_n 2, 1) := by decide +kernel
theorem dX1_strikeRings_11 : decode cX1_strikeRings 11 = .ok (.iconst 1, 1) := by decide +kernel
theorem dX1_strikeRings_12 : decode cX1_strikeRings 12 = .ok (.iadd, 1) := by decide +kernel
theorem dX1_strikeRings_13 : decode cX1_strikeRings 13 = .ok (.istore_n 3, 1) := by decide +kernel
theorem dX1_strikeRings_14 : decode cX1_strikeRings 14 = .ok (.iload_n 3, 1) := by decide +kernel
theorem dX1_strikeRings_15 : decode cX1_strikeRings 15 = .ok (.bipush 6, 2) := by decide +kernel
theorem dX1_strikeRings_17 : decode cX1_strikeRings 17 = .ok (.if_icmp .ge 18, 3) := by decide +kernel
theorem dX1_strikeRings_20 : decode cX1_strikeRings 20 = .ok (.iload_n 1, 1) := by decide +kernel
theorem dX1_strikeRings_21 : decode cX1_strikeRings 21 = .ok (.aload_n 0, 1) := by decide +kernel
theorem dX1_strikeRings_22 : decode cX1_strikeRings 22 = .ok (.iload_n 2, 1) := by decide +kernel
theorem dX1_strikeRings_23 : decode cX1_strikeRings 23 = .ok (.iload_n 3, 1) := by decide +kernel
theorem dX1_strikeRings_24 : decode cX1_strikeRings 24 = .ok (.invokevirtual 29, 3) := by decide +kernel
theorem dX1_strikeRings_27 : decode cX1_strikeRings 27 = .ok (.iadd, 1) := by decide +kernel
theorem dX1_strikeRings_28 : decode cX1_strikeRings 28 = .ok (.istore_n 1, 1) := by decide +kernel
theorem dX1_strikeRings_29 : decode cX1_strikeRings 29 = .ok (.iinc 3 1, 3) := by decide +kernel
theorem dX1_strikeRings_32 : decode cX1_strikeRings 32 = .ok (.goto (-18), 3) := by decide +kernel
theorem dX1_strikeRings_35 : decode cX1_strikeRings 35 = .ok (.iinc 2 1, 3) := by decide +kernel
theorem dX1_strikeRings_38 : decode cX1_strikeRings 38 = .ok (.goto (-34), 3) := by decide +kernel
theorem dX1_strikeRings_41 : decode cX1_strikeRings 41 = .ok (.iconst 0, 1) := by decide +kernel
theorem dX1_strikeRings_42 : decode cX1_strikeRings 42 = .ok (.istore_n 2, 1) := by decide +kernel
theorem dX1_strikeRings_43 : decode cX1_strikeRings 43 = .ok (.iload_n 2, 1) := by decide +kernel
theorem dX1_strikeRings_44 : decode cX1_strikeRings 44 = .ok (.bipush 6, 2) := by decide +kernel
theorem dX1_strikeRings_46 : decode cX1_strikeRings 46 = .ok (.if_icmp .ge 64, 3) := by decide +kernel
theorem dX1_strikeRings_49 : decode cX1_strikeRings 49 = .ok (.iload_n 2, 1) := by decide +kernel
theorem dX1_strikeRings_50 : decode cX1_strikeRings 50 = .ok (.iconst 1, 1) := by decide +kernel
theorem dX1_strikeRings_51 : decode cX1_strikeRings 51 = .ok (.iadd, 1) := by decide +kernel
theorem dX1_strikeRings_52 : decode cX1_strikeRings 52 = .ok (.istore_n 3, 1) := by decide +kernel
theorem dX1_strikeRings_53 : decode cX1_strikeRings 53 = .ok (.iload_n 3, 1) := by decide +kernel
theorem dX1_strikeRings_54 : decode cX1_strikeRings 54 = .ok (.bipush 6, 2) := by decide +kernel
theorem dX1_strikeRings_56 : decode cX1_strikeRings 56 = .ok (.if_icmp .ge 48, 3) := by decide +kernel
theorem dX1_strikeRings_59 : decode cX1_strikeRings 59 = .ok (.iload_n 2, 1) := by decide +kernel
theorem dX1_strikeRings_60 : decode cX1_strikeRings 60 = .ok (.iconst 1, 1) := by decide +kernel
theorem dX1_strikeRings_61 : decode cX1_strikeRings 61 = .ok (.iadd, 1) := by decide +kernel
theorem dX1_strikeRings_62 : decode cX1_strikeRings 62 = .ok (.istore 4, 2) := by decide +kernel
theorem dX1_strikeRings_64 : decode cX1_strikeRings 64 = .ok (.iload 4, 2) := by decide +kernel
theorem dX1_strikeRings_66 : decode cX1_strikeRings 66 = .ok (.bipush 6, 2) := by decide +kernel
theorem dX1_strikeRings_68 : decode cX1_strikeRings 68 = .ok (.if_icmp .ge 30, 3) := by decide +kernel
theorem dX1_strikeRings_71 : decode cX1_strikeRings 71 = .ok (.iload_n 1, 1) := by decide +kernel
theorem dX1_strikeRings_72 : decode cX1_strikeRings 72 = .ok (.iload_n 3, 1) := by decide +kernel
theorem dX1_strikeRings_73 : decode cX1_strikeRings 73 = .ok (.iload 4, 2) := by decide +kernel
theorem dX1_strikeRings_75 : decode cX1_strikeRings 75 = .ok (.if_icmp .ne 7, 3) := by decide +kernel
theorem dX1_strikeRings_78 : decode cX1_strikeRings 78 = .ok (.iconst 0, 1) := by decide +kernel
theorem dX1_strikeRings_79 : decode cX1_strikeRings 79 = .ok (.goto 11, 3) := by decide +kernel
theorem dX1_strikeRings_82 : decode cX1_strikeRings 82 = .ok (.aload_n 0, 1) := by decide +kernel
theorem dX1_strikeRings_83 : decode cX1_strikeRings 83 = .ok (.iload_n 2, 1) := by decide +kernel
theorem dX1_strikeRings_84 : decode cX1_strikeRings 84 = .ok (.iload_n 3, 1) := by decide +kernel
theorem dX1_strikeRings_85 : decode cX1_strikeRings 85 = .ok (.iload 4, 2) := by decide +kernel
theorem dX1_strikeRings_87 : decode cX1_strikeRings 87 = .ok (.invokevirtual 32, 3) := by decide +kernel
theorem dX1_strikeRings_90 : decode cX1_strikeRings 90 = .ok (.iadd, 1) := by decide +kernel
theorem dX1_strikeRings_91 : decode cX1_strikeRings 91 = .ok (.istore_n 1, 1) := by decide +kernel
theorem dX1_strikeRings_92 : decode cX1_strikeRings 92 = .ok (.iinc 4 1, 3) := by decide +kernel
theorem dX1_strikeRings_95 : decode cX1_strikeRings 95 = .ok (.goto (-31), 3) := by decide +kernel
theorem dX1_strikeRings_98 : decode cX1_strikeRings 98 = .ok (.iinc 3 1, 3) := by decide +kernel
theorem dX1_strikeRings_101 : decode cX1_strikeRings 101 = .ok (.goto (-48), 3) := by decide +kernel
theorem dX1_strikeRings_104 : decode cX1_strikeRings 104 = .ok (.iinc 2 1, 3) := by decide +kernel
theorem dX1_strikeRings_107 : decode cX1_strikeRings 107 = .ok (.goto (-64), 3) := by decide +kernel
theorem dX1_strikeRings_110 : decode cX1_strikeRings 110 = .ok (.iload_n 1, 1) := by decide +kernel
theorem dX1_strikeRings_111 : decode cX1_strikeRings 111 = .ok (.ireturn, 1) := by decide +kernel
theorem dX1_strikeTwo_0 : decode cX1_strikeTwo 0 = .ok (.aload_n 0, 1) := by decide +kernel
theorem dX1_strikeTwo_1 : decode cX1_strikeTwo 1 = .ok (.iload_n 1, 1) := by decide +kernel
theorem dX1_strikeTwo_2 : decode cX1_strikeTwo 2 = .ok (.iload_n 2, 1) := by decide +kernel
theorem dX1_strikeTwo_3 : decode cX1_strikeTwo 3 = .ok (.invokevirtual 25, 3) := by decide +kernel
theorem dX1_strikeTwo_6 : decode cX1_strikeTwo 6 = .ok (.aload_n 0, 1) := by decide +kernel
theorem dX1_strikeTwo_7 : decode cX1_strikeTwo 7 = .ok (.iload_n 2, 1) := by decide +kernel
theorem dX1_strikeTwo_8 : decode cX1_strikeTwo 8 = .ok (.iload_n 1, 1) := by decide +kernel
theorem dX1_strikeTwo_9 : decode cX1_strikeTwo 9 = .ok (.invokevirtual 25, 3) := by decide +kernel
theorem dX1_strikeTwo_12 : decode cX1_strikeTwo 12 = .ok (.invokestatic 36, 3) := by decide +kernel
theorem dX1_strikeTwo_15 : decode cX1_strikeTwo 15 = .ok (.istore_n 3, 1) := by decide +kernel
theorem dX1_strikeTwo_16 : decode cX1_strikeTwo 16 = .ok (.aload_n 0, 1) := by decide +kernel
theorem dX1_strikeTwo_17 : decode cX1_strikeTwo 17 = .ok (.iload_n 1, 1) := by decide +kernel
theorem dX1_strikeTwo_18 : decode cX1_strikeTwo 18 = .ok (.iload_n 2, 1) := by decide +kernel
theorem dX1_strikeTwo_19 : decode cX1_strikeTwo 19 = .ok (.aload_n 0, 1) := by decide +kernel
theorem dX1_strikeTwo_20 : decode cX1_strikeTwo 20 = .ok (.iload_n 1, 1) := by decide +kernel
theorem dX1_strikeTwo_21 : decode cX1_strikeTwo 21 = .ok (.iload_n 2, 1) := by decide +kernel
theorem dX1_strikeTwo_22 : decode cX1_strikeTwo 22 = .ok (.invokevirtual 25, 3) := by decide +kernel
theorem dX1_strikeTwo_25 : decode cX1_strikeTwo 25 = .ok (.iload_n 3, 1) := by decide +kernel
theorem dX1_strikeTwo_26 : decode cX1_strikeTwo 26 = .ok (.isub, 1) := by decide +kernel
theorem dX1_strikeTwo_27 : decode cX1_strikeTwo 27 = .ok (.invokevirtual 41, 3) := by decide +kernel
theorem dX1_strikeTwo_30 : decode cX1_strikeTwo 30 = .ok (.aload_n 0, 1) := by decide +kernel
theorem dX1_strikeTwo_31 : decode cX1_strikeTwo 31 = .ok (.iload_n 2, 1) := by decide +kernel
theorem dX1_strikeTwo_32 : decode cX1_strikeTwo 32 = .ok (.iload_n 1, 1) := by decide +kernel
theorem dX1_strikeTwo_33 : decode cX1_strikeTwo 33 = .ok (.aload_n 0, 1) := by decide +kernel
theorem dX1_strikeTwo_34 : decode cX1_strikeTwo 34 = .ok (.iload_n 2, 1) := by decide +kernel
theorem dX1_strikeTwo_35 : decode cX1_strikeTwo 35 = .ok (.iload_n 1, 1) := by decide +kernel
theorem dX1_strikeTwo_36 : decode cX1_strikeTwo 36 = .ok (.invokevirtual 25, 3) := by decide +kernel
theorem dX1_strikeTwo_39 : decode cX1_strikeTwo 39 = .ok (.iload_n 3, 1) := by decide +kernel
theorem dX1_strikeTwo_40 : decode cX1_strikeTwo 40 = .ok (.isub, 1) := by decide +kernel
theorem dX1_strikeTwo_41 : decode cX1_strikeTwo 41 = .ok (.invokevirtual 41, 3) := by decide +kernel
theorem dX1_strikeTwo_44 : decode cX1_strikeTwo 44 = .ok (.iload_n 3, 1) := by decide +kernel
theorem dX1_strikeTwo_45 : decode cX1_strikeTwo 45 = .ok (.ifCond .le 7, 3) := by decide +kernel
theorem dX1_strikeTwo_48 : decode cX1_strikeTwo 48 = .ok (.iconst 1, 1) := by decide +kernel
theorem dX1_strikeTwo_49 : decode cX1_strikeTwo 49 = .ok (.goto 4, 3) := by decide +kernel
theorem dX1_strikeTwo_52 : decode cX1_strikeTwo 52 = .ok (.iconst 0, 1) := by decide +kernel
theorem dX1_strikeTwo_53 : decode cX1_strikeTwo 53 = .ok (.ireturn, 1) := by decide +kernel
theorem dX1_strikeThree_0 : decode cX1_strikeThree 0 = .ok (.aload_n 0, 1) := by decide +kernel
theorem dX1_strikeThree_1 : decode cX1_strikeThree 1 = .ok (.iload_n 1, 1) := by decide +kernel
theorem dX1_strikeThree_2 : decode cX1_strikeThree 2 = .ok (.iload_n 2, 1) := by decide +kernel
theorem dX1_strikeThree_3 : decode cX1_strikeThree 3 = .ok (.invokevirtual 25, 3) := by decide +kernel
theorem dX1_strikeThree_6 : decode cX1_strikeThree 6 = .ok (.aload_n 0, 1) := by decide +kernel
theorem dX1_strikeThree_7 : decode cX1_strikeThree 7 = .ok (.iload_n 2, 1) := by decide +kernel
theorem dX1_strikeThree_8 : decode cX1_strikeThree 8 = .ok (.iload_n 3, 1) := by decide +kernel
theorem dX1_strikeThree_9 : decode cX1_strikeThree 9 = .ok (.invokevirtual 25, 3) := by decide +kernel
theorem dX1_strikeThree_12 : decode cX1_strikeThree 12 = .ok (.aload_n 0, 1) := by decide +kernel
theorem dX1_strikeThree_13 : decode cX1_strikeThree 13 = .ok (.iload_n 3, 1) := by decide +kernel
theorem dX1_strikeThree_14 : decode cX1_strikeThree 14 = .ok (.iload_n 1, 1) := by decide +kernel
theorem dX1_strikeThree_15 : decode cX1_strikeThree 15 = .ok (.invokevirtual 25, 3) := by decide +kernel
theorem dX1_strikeThree_18 : decode cX1_strikeThree 18 = .ok (.invokestatic 36, 3) := by decide +kernel
theorem dX1_strikeThree_21 : decode cX1_strikeThree 21 = .ok (.invokestatic 36, 3) := by decide +kernel
theorem dX1_strikeThree_24 : decode cX1_strikeThree 24 = .ok (.istore 4, 2) := by decide +kernel
theorem dX1_strikeThree_26 : decode cX1_strikeThree 26 = .ok (.aload_n 0, 1) := by decide +kernel
theorem dX1_strikeThree_27 : decode cX1_strikeThree 27 = .ok (.iload_n 1, 1) := by decide +kernel
theorem dX1_strikeThree_28 : decode cX1_strikeThree 28 = .ok (.iload_n 2, 1) := by decide +kernel
theorem dX1_strikeThree_29 : decode cX1_strikeThree 29 = .ok (.aload_n 0, 1) := by decide +kernel
theorem dX1_strikeThree_30 : decode cX1_strikeThree 30 = .ok (.iload_n 1, 1) := by decide +kernel
theorem dX1_strikeThree_31 : decode cX1_strikeThree 31 = .ok (.iload_n 2, 1) := by decide +kernel
theorem dX1_strikeThree_32 : decode cX1_strikeThree 32 = .ok (.invokevirtual 25, 3) := by decide +kernel
theorem dX1_strikeThree_35 : decode cX1_strikeThree 35 = .ok (.iload 4, 2) := by decide +kernel
theorem dX1_strikeThree_37 : decode cX1_strikeThree 37 = .ok (.isub, 1) := by decide +kernel
theorem dX1_strikeThree_38 : decode cX1_strikeThree 38 = .ok (.invokevirtual 41, 3) := by decide +kernel
theorem dX1_strikeThree_41 : decode cX1_strikeThree 41 = .ok (.aload_n 0, 1) := by decide +kernel
theorem dX1_strikeThree_42 : decode cX1_strikeThree 42 = .ok (.iload_n 2, 1) := by decide +kernel
theorem dX1_strikeThree_43 : decode cX1_strikeThree 43 = .ok (.iload_n 3, 1) := by decide +kernel
theorem dX1_strikeThree_44 : decode cX1_strikeThree 44 = .ok (.aload_n 0, 1) := by decide +kernel
theorem dX1_strikeThree_45 : decode cX1_strikeThree 45 = .ok (.iload_n 2, 1) := by decide +kernel
theorem dX1_strikeThree_46 : decode cX1_strikeThree 46 = .ok (.iload_n 3, 1) := by decide +kernel
theorem dX1_strikeThree_47 : decode cX1_strikeThree 47 = .ok (.invokevirtual 25, 3) := by decide +kernel
theorem dX1_strikeThree_50 : decode cX1_strikeThree 50 = .ok (.iload 4, 2) := by decide +kernel
theorem dX1_strikeThree_52 : decode cX1_strikeThree 52 = .ok (.isub, 1) := by decide +kernel
theorem dX1_strikeThree_53 : decode cX1_strikeThree 53 = .ok (.invokevirtual 41, 3) := by decide +kernel
theorem dX1_strikeThree_56 : decode cX1_strikeThree 56 = .ok (.aload_n 0, 1) := by decide +kernel
theorem dX1_strikeThree_57 : decode cX1_strikeThree 57 = .ok (.iload_n 3, 1) := by decide +kernel
theorem dX1_strikeThree_58 : decode cX1_strikeThree 58 = .ok (.iload_n 1, 1) := by decide +kernel
theorem dX1_strikeThree_59 : decode cX1_strikeThree 59 = .ok (.aload_n 0, 1) := by decide +kernel
theorem dX1_strikeThree_60 : decode cX1_strikeThree 60 = .ok (.iload_n 3, 1) := by decide +kernel
theorem dX1_strikeThree_61 : decode cX1_strikeThree 61 = .ok (.iload_n 1, 1) := by decide +kernel
theorem dX1_strikeThree_62 : decode cX1_strikeThree 62 = .ok (.invokevirtual 25, 3) := by decide +kernel
theorem dX1_strikeThree_65 : decode cX1_strikeThree 65 = .ok (.iload 4, 2) := by decide +kernel
theorem dX1_strikeThree_67 : decode cX1_strikeThree 67 = .ok (.isub, 1) := by decide +kernel
theorem dX1_strikeThree_68 : decode cX1_strikeThree 68 = .ok (.invokevirtual 41, 3) := by decide +kernel
theorem dX1_strikeThree_71 : decode cX1_strikeThree 71 = .ok (.iload 4, 2) := by decide +kernel
theorem dX1_strikeThree_73 : decode cX1_strikeThree 73 = .ok (.ifCond .le 7, 3) := by decide +kernel
theorem dX1_strikeThree_76 : decode cX1_strikeThree 76 = .ok (.iconst 1, 1) := by decide +kernel
theorem dX1_strikeThree_77 : decode cX1_strikeThree 77 = .ok (.goto 4, 3) := by decide +kernel
theorem dX1_strikeThree_80 : decode cX1_strikeThree 80 = .ok (.iconst 0, 1) := by decide +kernel
theorem dX1_strikeThree_81 : decode cX1_strikeThree 81 = .ok (.ireturn, 1) := by decide +kernel
theorem dX2_init_0 : decode cX2_init 0 = .ok (.aload_n 0, 1) := by decide +kernel
theorem dX2_init_1 : decode cX2_init 1 = .ok (.iload_n 1, 1) := by decide +kernel
theorem dX2_init_2 : decode cX2_init 2 = .ok (.iload_n 2, 1) := by decide +kernel
theorem dX2_init_3 : decode cX2_init 3 = .ok (.iload_n 3, 1) := by decide +kernel
theorem dX2_init_4 : decode cX2_init 4 = .ok (.iload 4, 2) := by decide +kernel
theorem dX2_init_6 : decode cX2_init 6 = .ok (.iload 5, 2) := by decide +kernel
theorem dX2_init_8 : decode cX2_init 8 = .ok (.iload 6, 2) := by decide +kernel
theorem dX2_init_10 : decode cX2_init 10 = .ok (.invokespecial 1, 3) := by decide +kernel
theorem dX2_init_13 : decode cX2_init 13 = .ok (.return_, 1) := by decide +kernel
theorem dX2_kind_0 : decode cX2_kind 0 = .ok (.iconst 5, 1) := by decide +kernel
theorem dX2_kind_1 : decode cX2_kind 1 = .ok (.ireturn, 1) := by decide +kernel
theorem dX2_buysAt_0 : decode cX2_buysAt 0 = .ok (.aload_n 0, 1) := by decide +kernel
theorem dX2_buysAt_1 : decode cX2_buysAt 1 = .ok (.getfield 7, 3) := by decide +kernel
theorem dX2_buysAt_4 : decode cX2_buysAt 4 = .ok (.iconst 2, 1) := by decide +kernel
theorem dX2_buysAt_5 : decode cX2_buysAt 5 = .ok (.aload_n 0, 1) := by decide +kernel
theorem dX2_buysAt_6 : decode cX2_buysAt 6 = .ok (.getfield 13, 3) := by decide +kernel
theorem dX2_buysAt_9 : decode cX2_buysAt 9 = .ok (.imul, 1) := by decide +kernel
theorem dX2_buysAt_10 : decode cX2_buysAt 10 = .ok (.isub, 1) := by decide +kernel
theorem dX2_buysAt_11 : decode cX2_buysAt 11 = .ok (.ireturn, 1) := by decide +kernel
theorem dX3_init_0 : decode cX3_init 0 = .ok (.aload_n 0, 1) := by decide +kernel
theorem dX3_init_1 : decode cX3_init 1 = .ok (.iload_n 1, 1) := by decide +kernel
theorem dX3_init_2 : decode cX3_init 2 = .ok (.iload_n 2, 1) := by decide +kernel
theorem dX3_init_3 : decode cX3_init 3 = .ok (.iload_n 3, 1) := by decide +kernel
theorem dX3_init_4 : decode cX3_init 4 = .ok (.iload 4, 2) := by decide +kernel
theorem dX3_init_6 : decode cX3_init 6 = .ok (.iload 5, 2) := by decide +kernel
theorem dX3_init_8 : decode cX3_init 8 = .ok (.iload 6, 2) := by decide +kernel
theorem dX3_init_10 : decode cX3_init 10 = .ok (.invokespecial 3, 3) := by decide +kernel
theorem dX3_init_13 : decode cX3_init 13 = .ok (.return_, 1) := by decide +kernel
theorem dX3_kind_0 : decode cX3_kind 0 = .ok (.iconst 3, 1) := by decide +kernel
theorem dX3_kind_1 : decode cX3_kind 1 = .ok (.ireturn, 1) := by decide +kernel
theorem dX3_buysAt_0 : decode cX3_buysAt 0 = .ok (.sipush 999, 3) := by decide +kernel
theorem dX3_buysAt_3 : decode cX3_buysAt 3 = .ok (.ireturn, 1) := by decide +kernel
theorem dX4_init_0 : decode cX4_init 0 = .ok (.aload_n 0, 1) := by decide +kernel
theorem dX4_init_1 : decode cX4_init 1 = .ok (.invokespecial 1, 3) := by decide +kernel
theorem dX4_init_4 : decode cX4_init 4 = .ok (.aload_n 0, 1) := by decide +kernel
theorem dX4_init_5 : decode cX4_init 5 = .ok (.iload_n 1, 1) := by decide +kernel
theorem dX4_init_6 : decode cX4_init 6 = .ok (.putfield 7, 3) := by decide +kernel
theorem dX4_init_9 : decode cX4_init 9 = .ok (.aload_n 0, 1) := by decide +kernel
theorem dX4_init_10 : decode cX4_init 10 = .ok (.iload_n 2, 1) := by decide +kernel
theorem dX4_init_11 : decode cX4_init 11 = .ok (.putfield 13, 3) := by decide +kernel
theorem dX4_init_14 : decode cX4_init 14 = .ok (.aload_n 0, 1) := by decide +kernel
theorem dX4_init_15 : decode cX4_init 15 = .ok (.iload_n 3, 1) := by decide +kernel
theorem dX4_init_16 : decode cX4_init 16 = .ok (.putfield 16, 3) := by decide +kernel
theorem dX4_init_19 : decode cX4_init 19 = .ok (.aload_n 0, 1) := by decide +kernel
theorem dX4_init_20 : decode cX4_init 20 = .ok (.iload 4, 2) := by decide +kernel
theorem dX4_init_22 : decode cX4_init 22 = .ok (.putfield 19, 3) := by decide +kernel
theorem dX4_init_25 : decode cX4_init 25 = .ok (.aload_n 0, 1) := by decide +kernel
theorem dX4_init_26 : decode cX4_init 26 = .ok (.iload 5, 2) := by decide +kernel
theorem dX4_init_28 : decode cX4_init 28 = .ok (.putfield 22, 3) := by decide +kernel
theorem dX4_init_31 : decode cX4_init 31 = .ok (.aload_n 0, 1) := by decide +kernel
theorem dX4_init_32 : decode cX4_init 32 = .ok (.iload 6, 2) := by decide +kernel
theorem dX4_init_34 : decode cX4_init 34 = .ok (.putfield 25, 3) := by decide +kernel
theorem dX4_init_37 : decode cX4_init 37 = .ok (.return_, 1) := by decide +kernel
theorem dX4_kind_0 : decode cX4_kind 0 = .ok (.iconst 0, 1) := by decide +kernel
theorem dX4_kind_1 : decode cX4_kind 1 = .ok (.ireturn, 1) := by decide +kernel
theorem dX4_sellsAt_0 : decode cX4_sellsAt 0 = .ok (.aload_n 0, 1) := by decide +kernel
theorem dX4_sellsAt_1 : decode cX4_sellsAt 1 = .ok (.getfield 13, 3) := by decide +kernel
theorem dX4_sellsAt_4 : decode cX4_sellsAt 4 = .ok (.ireturn, 1) := by decide +kernel
theorem dX4_buysAt_0 : decode cX4_buysAt 0 = .ok (.aload_n 0, 1) := by decide +kernel
theorem dX4_buysAt_1 : decode cX4_buysAt 1 = .ok (.getfield 13, 3) := by decide +kernel
theorem dX4_buysAt_4 : decode cX4_buysAt 4 = .ok (.ireturn, 1) := by decide +kernel
theorem dX4_wantsSome_0 : decode cX4_wantsSome 0 = .ok (.aload_n 0, 1) := by decide +kernel
theorem dX4_wantsSome_1 : decode cX4_wantsSome 1 = .ok (.getfield 25, 3) := by decide +kernel
theorem dX4_wantsSome_4 : decode cX4_wantsSome 4 = .ok (.ifCond .le 15, 3) := by decide +kernel
theorem dX4_wantsSome_7 : decode cX4_wantsSome 7 = .ok (.aload_n 0, 1) := by decide +kernel
theorem dX4_wantsSome_8 : decode cX4_wantsSome 8 = .ok (.getfield 22, 3) := by decide +kernel
theorem dX4_wantsSome_11 : decode cX4_wantsSome 11 = .ok (.iload_n 1, 1) := by decide +kernel
theorem dX4_wantsSome_12 : decode cX4_wantsSome 12 = .ok (.if_icmp .ne 7, 3) := by decide +kernel
theorem dX4_wantsSome_15 : decode cX4_wantsSome 15 = .ok (.iconst 1, 1) := by decide +kernel
theorem dX4_wantsSome_16 : decode cX4_wantsSome 16 = .ok (.goto 4, 3) := by decide +kernel
theorem dX4_wantsSome_19 : decode cX4_wantsSome 19 = .ok (.iconst 0, 1) := by decide +kernel
theorem dX4_wantsSome_20 : decode cX4_wantsSome 20 = .ok (.ireturn, 1) := by decide +kernel
theorem dX5_init_0 : decode cX5_init 0 = .ok (.aload_n 0, 1) := by decide +kernel
theorem dX5_init_1 : decode cX5_init 1 = .ok (.iload_n 1, 1) := by decide +kernel
theorem dX5_init_2 : decode cX5_init 2 = .ok (.iload_n 2, 1) := by decide +kernel
theorem dX5_init_3 : decode cX5_init 3 = .ok (.iload_n 3, 1) := by decide +kernel
theorem dX5_init_4 : decode cX5_init 4 = .ok (.iload 4, 2) := by decide +kernel
theorem dX5_init_6 : decode cX5_init 6 = .ok (.iload 5, 2) := by decide +kernel
theorem dX5_init_8 : decode cX5_init 8 = .ok (.iload 6, 2) := by decide +kernel
theorem dX5_init_10 : decode cX5_init 10 = .ok (.invokespecial 1, 3) := by decide +kernel
theorem dX5_init_13 : decode cX5_init 13 = .ok (.return_, 1) := by decide +kernel
theorem dX5_kind_0 : decode cX5_kind 0 = .ok (.iconst 2, 1) := by decide +kernel
theorem dX5_kind_1 : decode cX5_kind 1 = .ok (.ireturn, 1) := by decide +kernel
theorem dX5_sellsAt_0 : decode cX5_sellsAt 0 = .ok (.aload_n 0, 1) := by decide +kernel
theorem dX5_sellsAt_1 : decode cX5_sellsAt 1 = .ok (.getfield 7, 3) := by decide +kernel
theorem dX5_sellsAt_4 : decode cX5_sellsAt 4 = .ok (.aload_n 0, 1) := by decide +kernel
theorem dX5_sellsAt_5 : decode cX5_sellsAt 5 = .ok (.getfield 13, 3) := by decide +kernel
theorem dX5_sellsAt_8 : decode cX5_sellsAt 8 = .ok (.iadd, 1) := by decide +kernel
theorem dX5_sellsAt_9 : decode cX5_sellsAt 9 = .ok (.ireturn, 1) := by decide +kernel
theorem dX6_init_0 : decode cX6_init 0 = .ok (.aload_n 0, 1) := by decide +kernel
theorem dX6_init_1 : decode cX6_init 1 = .ok (.invokespecial 3, 3) := by decide +kernel
theorem dX6_init_4 : decode cX6_init 4 = .ok (.aload_n 0, 1) := by decide +kernel
theorem dX6_init_5 : decode cX6_init 5 = .ok (.bipush 6, 2) := by decide +kernel
theorem dX6_init_7 : decode cX6_init 7 = .ok (.anewarray 9, 3) := by decide +kernel
theorem dX6_init_10 : decode cX6_init 10 = .ok (.putfield 11, 3) := by decide +kernel
theorem dX6_init_13 : decode cX6_init 13 = .ok (.aload_n 0, 1) := by decide +kernel
theorem dX6_init_14 : decode cX6_init 14 = .ok (.bipush 6, 2) := by decide +kernel
theorem dX6_init_16 : decode cX6_init 16 = .ok (.newarray .int, 2) := by decide +kernel
theorem dX6_init_18 : decode cX6_init 18 = .ok (.putfield 17, 3) := by decide +kernel
theorem dX6_init_21 : decode cX6_init 21 = .ok (.aload_n 0, 1) := by decide +kernel
theorem dX6_init_22 : decode cX6_init 22 = .ok (.bipush 18, 2) := by decide +kernel
theorem dX6_init_24 : decode cX6_init 24 = .ok (.newarray .int, 2) := by decide +kernel
theorem dX6_init_26 : decode cX6_init 26 = .ok (.putfield 21, 3) := by decide +kernel
theorem dX6_init_29 : decode cX6_init 29 = .ok (.aload_n 0, 1) := by decide +kernel
theorem dX6_init_30 : decode cX6_init 30 = .ok (.iconst 3, 1) := by decide +kernel
theorem dX6_init_31 : decode cX6_init 31 = .ok (.newarray .int, 2) := by decide +kernel
theorem dX6_init_33 : decode cX6_init 33 = .ok (.putfield 24, 3) := by decide +kernel
theorem dX6_init_36 : decode cX6_init 36 = .ok (.aload_n 0, 1) := by decide +kernel
theorem dX6_init_37 : decode cX6_init 37 = .ok (.new 27, 3) := by decide +kernel
theorem dX6_init_40 : decode cX6_init 40 = .ok (.dup, 1) := by decide +kernel
theorem dX6_init_41 : decode cX6_init 41 = .ok (.invokespecial 29, 3) := by decide +kernel
theorem dX6_init_44 : decode cX6_init 44 = .ok (.putfield 30, 3) := by decide +kernel
theorem dX6_init_47 : decode cX6_init 47 = .ok (.new 9, 3) := by decide +kernel
theorem dX6_init_50 : decode cX6_init 50 = .ok (.dup, 1) := by decide +kernel
theorem dX6_init_51 : decode cX6_init 51 = .ok (.iconst 0, 1) := by decide +kernel
theorem dX6_init_52 : decode cX6_init 52 = .ok (.iconst 0, 1) := by decide +kernel
theorem dX6_init_53 : decode cX6_init 53 = .ok (.iconst 0, 1) := by decide +kernel
theorem dX6_init_54 : decode cX6_init 54 = .ok (.iconst 0, 1) := by decide +kernel
theorem dX6_init_55 : decode cX6_init 55 = .ok (.iconst 0, 1) := by decide +kernel
theorem dX6_init_56 : decode cX6_init 56 = .ok (.iconst 0, 1) := by decide +kernel
theorem dX6_init_57 : decode cX6_init 57 = .ok (.invokespecial 34, 3) := by decide +kernel
theorem dX6_init_60 : decode cX6_init 60 = .ok (.astore_n 1, 1) := by decide +kernel
theorem dX6_init_61 : decode cX6_init 61 = .ok (.iconst 0, 1) := by decide +kernel
theorem dX6_init_62 : decode cX6_init 62 = .ok (.istore_n 2, 1) := by decide +kernel
theorem dX6_init_63 : decode cX6_init 63 = .ok (.iload_n 2, 1) := by decide +kernel
theorem dX6_init_64 : decode cX6_init 64 = .ok (.aload_n 0, 1) := by decide +kernel
theorem dX6_init_65 : decode cX6_init 65 = .ok (.getfield 11, 3) := by decide +kernel
theorem dX6_init_68 : decode cX6_init 68 = .ok (.arraylength, 1) := by decide +kernel
theorem dX6_init_69 : decode cX6_init 69 = .ok (.if_icmp .ge 16, 3) := by decide +kernel
theorem dX6_init_72 : decode cX6_init 72 = .ok (.aload_n 0, 1) := by decide +kernel
theorem dX6_init_73 : decode cX6_init 73 = .ok (.getfield 11, 3) := by decide +kernel
theorem dX6_init_76 : decode cX6_init 76 = .ok (.iload_n 2, 1) := by decide +kernel
theorem dX6_init_77 : decode cX6_init 77 = .ok (.aload_n 1, 1) := by decide +kernel
theorem dX6_init_78 : decode cX6_init 78 = .ok (.aastore, 1) := by decide +kernel
theorem dX6_init_79 : decode cX6_init 79 = .ok (.iinc 2 1, 3) := by decide +kernel
theorem dX6_init_82 : decode cX6_init 82 = .ok (.goto (-19), 3) := by decide +kernel
theorem dX6_init_85 : decode cX6_init 85 = .ok (.iconst 0, 1) := by decide +kernel
theorem dX6_init_86 : decode cX6_init 86 = .ok (.istore_n 2, 1) := by decide +kernel
theorem dX6_init_87 : decode cX6_init 87 = .ok (.iload_n 2, 1) := by decide +kernel
theorem dX6_init_88 : decode cX6_init 88 = .ok (.aload_n 0, 1) := by decide +kernel
theorem dX6_init_89 : decode cX6_init 89 = .ok (.getfield 24, 3) := by decide +kernel
theorem dX6_init_92 : decode cX6_init 92 = .ok (.arraylength, 1) := by decide +kernel
theorem dX6_init_93 : decode cX6_init 93 = .ok (.if_icmp .ge 16, 3) := by decide +kernel
theorem dX6_init_96 : decode cX6_init 96 = .ok (.aload_n 0, 1) := by decide +kernel
theorem dX6_init_97 : decode cX6_init 97 = .ok (.getfield 24, 3) := by decide +kernel
theorem dX6_init_100 : decode cX6_init 100 = .ok (.iload_n 2, 1) := by decide +kernel
theorem dX6_init_101 : decode cX6_init 101 = .ok (.iconst 1, 1) := by decide +kernel
theorem dX6_init_102 : decode cX6_init 102 = .ok (.iastore, 1) := by decide +kernel
theorem dX6_init_103 : decode cX6_init 103 = .ok (.iinc 2 1, 3) := by decide +kernel
theorem dX6_init_106 : decode cX6_init 106 = .ok (.goto (-19), 3) := by decide +kernel
theorem dX6_init_109 : decode cX6_init 109 = .ok (.return_, 1) := by decide +kernel
theorem dX6_copyFrom_0 : decode cX6_copyFrom 0 = .ok (.iconst 0, 1) := by decide +kernel
theorem dX6_copyFrom_1 : decode cX6_copyFrom 1 = .ok (.istore_n 2, 1) := by decide +kernel
theorem dX6_copyFrom_2 : decode cX6_copyFrom 2 = .ok (.iload_n 2, 1) := by decide +kernel
theorem dX6_copyFrom_3 : decode cX6_copyFrom 3 = .ok (.aload_n 0, 1) := by decide +kernel
theorem dX6_copyFrom_4 : decode cX6_copyFrom 4 = .ok (.getfield 11, 3) := by decide +kernel
theorem dX6_copyFrom_7 : decode cX6_copyFrom 7 = .ok (.arraylength, 1) := by decide +kernel
theorem dX6_copyFrom_8 : decode cX6_copyFrom 8 = .ok (.if_icmp .ge 21, 3) := by decide +kernel
theorem dX6_copyFrom_11 : decode cX6_copyFrom 11 = .ok (.aload_n 0, 1) := by decide +kernel
theorem dX6_copyFrom_12 : decode cX6_copyFrom 12 = .ok (.getfield 11, 3) := by decide +kernel
theorem dX6_copyFrom_15 : decode cX6_copyFrom 15 = .ok (.iload_n 2, 1) := by decide +kernel
theorem dX6_copyFrom_16 : decode cX6_copyFrom 16 = .ok (.aload_n 1, 1) := by decide +kernel
theorem dX6_copyFrom_17 : decode cX6_copyFrom 17 = .ok (.getfield 11, 3) := by decide +kernel
theorem dX6_copyFrom_20 : decode cX6_copyFrom 20 = .ok (.iload_n 2, 1) := by decide +kernel
theorem dX6_copyFrom_21 : decode cX6_copyFrom 21 = .ok (.aaload, 1) := by decide +kernel
theorem dX6_copyFrom_22 : decode cX6_copyFrom 22 = .ok (.aastore, 1) := by decide +kernel
theorem dX6_copyFrom_23 : decode cX6_copyFrom 23 = .ok (.iinc 2 1, 3) := by decide +kernel
theorem dX6_copyFrom_26 : decode cX6_copyFrom 26 = .ok (.goto (-24), 3) := by decide +kernel
theorem dX6_copyFrom_29 : decode cX6_copyFrom 29 = .ok (.aload_n 0, 1) := by decide +kernel
theorem dX6_copyFrom_30 : decode cX6_copyFrom 30 = .ok (.aload_n 1, 1) := by decide +kernel
theorem dX6_copyFrom_31 : decode cX6_copyFrom 31 = .ok (.getfield 37, 3) := by decide +kernel
theorem dX6_copyFrom_34 : decode cX6_copyFrom 34 = .ok (.putfield 37, 3) := by decide +kernel
theorem dX6_copyFrom_37 : decode cX6_copyFrom 37 = .ok (.aload_n 1, 1) := by decide +kernel
theorem dX6_copyFrom_38 : decode cX6_copyFrom 38 = .ok (.getfield 17, 3) := by decide +kernel
theorem dX6_copyFrom_41 : decode cX6_copyFrom 41 = .ok (.iconst 0, 1) := by decide +kernel
theorem dX6_copyFrom_42 : decode cX6_copyFrom 42 = .ok (.aload_n 0, 1) := by decide +kernel
theorem dX6_copyFrom_43 : decode cX6_copyFrom 43 = .ok (.getfield 17, 3) := by decide +kernel
theorem dX6_copyFrom_46 : decode cX6_copyFrom 46 = .ok (.iconst 0, 1) := by decide +kernel
theorem dX6_copyFrom_47 : decode cX6_copyFrom 47 = .ok (.aload_n 0, 1) := by decide +kernel
theorem dX6_copyFrom_48 : decode cX6_copyFrom 48 = .ok (.getfield 17, 3) := by decide +kernel
theorem dX6_copyFrom_51 : decode cX6_copyFrom 51 = .ok (.arraylength, 1) := by decide +kernel
theorem dX6_copyFrom_52 : decode cX6_copyFrom 52 = .ok (.invokestatic 41, 3) := by decide +kernel
theorem dX6_copyFrom_55 : decode cX6_copyFrom 55 = .ok (.aload_n 1, 1) := by decide +kernel
theorem dX6_copyFrom_56 : decode cX6_copyFrom 56 = .ok (.getfield 21, 3) := by decide +kernel
theorem dX6_copyFrom_59 : decode cX6_copyFrom 59 = .ok (.iconst 0, 1) := by decide +kernel
theorem dX6_copyFrom_60 : decode cX6_copyFrom 60 = .ok (.aload_n 0, 1) := by decide +kernel
theorem dX6_copyFrom_61 : decode cX6_copyFrom 61 = .ok (.getfield 21, 3) := by decide +kernel
theorem dX6_copyFrom_64 : decode cX6_copyFrom 64 = .ok (.iconst 0, 1) := by decide +kernel
theorem dX6_copyFrom_65 : decode cX6_copyFrom 65 = .ok (.aload_n 0, 1) := by decide +kernel
theorem dX6_copyFrom_66 : decode cX6_copyFrom 66 = .ok (.getfield 21, 3) := by decide +kernel
theorem dX6_copyFrom_69 : decode cX6_copyFrom 69 = .ok (.arraylength, 1) := by decide +kernel
theorem dX6_copyFrom_70 : decode cX6_copyFrom 70 = .ok (.invokestatic 41, 3) := by decide +kernel
theorem dX6_copyFrom_73 : decode cX6_copyFrom 73 = .ok (.aload_n 1, 1) := by decide +kernel
theorem dX6_copyFrom_74 : decode cX6_copyFrom 74 = .ok (.getfield 24, 3) := by decide +kernel
theorem dX6_copyFrom_77 : decode cX6_copyFrom 77 = .ok (.iconst 0, 1) := by decide +kernel
theorem dX6_copyFrom_78 : decode cX6_copyFrom 78 = .ok (.aload_n 0, 1) := by decide +kernel
theorem dX6_copyFrom_79 : decode cX6_copyFrom 79 = .ok (.getfield 24, 3) := by decide +kernel
theorem dX6_copyFrom_82 : decode cX6_copyFrom 82 = .ok (.iconst 0, 1) := by decide +kernel
theorem dX6_copyFrom_83 : decode cX6_copyFrom 83 = .ok (.aload_n 0, 1) := by decide +kernel
theorem dX6_copyFrom_84 : decode cX6_copyFrom 84 = .ok (.getfield 24, 3) := by decide +kernel
theorem dX6_copyFrom_87 : decode cX6_copyFrom 87 = .ok (.arraylength, 1) := by decide +kernel
theorem dX6_copyFrom_88 : decode cX6_copyFrom 88 = .ok (.invokestatic 41, 3) := by decide +kernel
theorem dX6_copyFrom_91 : decode cX6_copyFrom 91 = .ok (.aload_n 0, 1) := by decide +kernel
theorem dX6_copyFrom_92 : decode cX6_copyFrom 92 = .ok (.getfield 30, 3) := by decide +kernel
theorem dX6_copyFrom_95 : decode cX6_copyFrom 95 = .ok (.aload_n 1, 1) := by decide +kernel
theorem dX6_copyFrom_96 : decode cX6_copyFrom 96 = .ok (.getfield 30, 3) := by decide +kernel
theorem dX6_copyFrom_99 : decode cX6_copyFrom 99 = .ok (.invokevirtual 47, 3) := by decide +kernel
theorem dX6_copyFrom_102 : decode cX6_copyFrom 102 = .ok (.aload_n 0, 1) := by decide +kernel
theorem dX6_copyFrom_103 : decode cX6_copyFrom 103 = .ok (.aload_n 1, 1) := by decide +kernel
theorem dX6_copyFrom_104 : decode cX6_copyFrom 104 = .ok (.getfield 51, 3) := by decide +kernel
theorem dX6_copyFrom_107 : decode cX6_copyFrom 107 = .ok (.putfield 51, 3) := by decide +kernel
theorem dX6_copyFrom_110 : decode cX6_copyFrom 110 = .ok (.aload_n 0, 1) := by decide +kernel
theorem dX6_copyFrom_111 : decode cX6_copyFrom 111 = .ok (.aload_n 1, 1) := by decide +kernel
theorem dX6_copyFrom_112 : decode cX6_copyFrom 112 = .ok (.getfield 54, 3) := by decide +kernel
theorem dX6_copyFrom_115 : decode cX6_copyFrom 115 = .ok (.putfield 54, 3) := by decide +kernel
theorem dX6_copyFrom_118 : decode cX6_copyFrom 118 = .ok (.aload_n 0, 1) := by decide +kernel
theorem dX6_copyFrom_119 : decode cX6_copyFrom 119 = .ok (.aload_n 1, 1) := by decide +kernel
theorem dX6_copyFrom_120 : decode cX6_copyFrom 120 = .ok (.getfield 57, 3) := by decide +kernel
theorem dX6_copyFrom_123 : decode cX6_copyFrom 123 = .ok (.putfield 57, 3) := by decide +kernel
theorem dX6_copyFrom_126 : decode cX6_copyFrom 126 = .ok (.return_, 1) := by decide +kernel
theorem dX6_addHouse_0 : decode cX6_addHouse 0 = .ok (.aload_n 0, 1) := by decide +kernel
theorem dX6_addHouse_1 : decode cX6_addHouse 1 = .ok (.getfield 37, 3) := by decide +kernel
theorem dX6_addHouse_4 : decode cX6_addHouse 4 = .ok (.bipush 6, 2) := by decide +kernel
theorem dX6_addHouse_6 : decode cX6_addHouse 6 = .ok (.if_icmp .lt 5, 3) := by decide +kernel
theorem dX6_addHouse_9 : decode cX6_addHouse 9 = .ok (.iconst 0, 1) := by decide +kernel
theorem dX6_addHouse_10 : decode cX6_addHouse 10 = .ok (.ireturn, 1) := by decide +kernel
theorem dX6_addHouse_11 : decode cX6_addHouse 11 = .ok (.aload_n 0, 1) := by decide +kernel
theorem dX6_addHouse_12 : decode cX6_addHouse 12 = .ok (.getfield 11, 3) := by decide +kernel
theorem dX6_addHouse_15 : decode cX6_addHouse 15 = .ok (.aload_n 0, 1) := by decide +kernel
theorem dX6_addHouse_16 : decode cX6_addHouse 16 = .ok (.getfield 37, 3) := by decide +kernel
theorem dX6_addHouse_19 : decode cX6_addHouse 19 = .ok (.aload_n 1, 1) := by decide +kernel
theorem dX6_addHouse_20 : decode cX6_addHouse 20 = .ok (.aastore, 1) := by decide +kernel
theorem dX6_addHouse_21 : decode cX6_addHouse 21 = .ok (.aload_n 0, 1) := by decide +kernel
theorem dX6_addHouse_22 : decode cX6_addHouse 22 = .ok (.getfield 17, 3) := by decide +kernel
theorem dX6_addHouse_25 : decode cX6_addHouse 25 = .ok (.aload_n 0, 1) := by decide +kernel
theorem dX6_addHouse_26 : decode cX6_addHouse 26 = .ok (.getfield 37, 3) := by decide +kernel
theorem dX6_addHouse_29 : decode cX6_addHouse 29 = .ok (.iload_n 2, 1) := by decide +kernel
theorem dX6_addHouse_30 : decode cX6_addHouse 30 = .ok (.iastore, 1) := by decide +kernel
theorem dX6_addHouse_31 : decode cX6_addHouse 31 = .ok (.aload_n 0, 1) := by decide +kernel
theorem dX6_addHouse_32 : decode cX6_addHouse 32 = .ok (.dup, 1) := by decide +kernel
theorem dX6_addHouse_33 : decode cX6_addHouse 33 = .ok (.getfield 37, 3) := by decide +kernel
theorem dX6_addHouse_36 : decode cX6_addHouse 36 = .ok (.iconst 1, 1) := by decide +kernel
theorem dX6_addHouse_37 : decode cX6_addHouse 37 = .ok (.iadd, 1) := by decide +kernel
theorem dX6_addHouse_38 : decode cX6_addHouse 38 = .ok (.putfield 37, 3) := by decide +kernel
theorem dX6_addHouse_41 : decode cX6_addHouse 41 = .ok (.iconst 1, 1) := by decide +kernel
theorem dX6_addHouse_42 : decode cX6_addHouse 42 = .ok (.ireturn, 1) := by decide +kernel
theorem dX6_hasHouse_0 : decode cX6_hasHouse 0 = .ok (.iload_n 1, 1) := by decide +kernel
theorem dX6_hasHouse_1 : decode cX6_hasHouse 1 = .ok (.ifCond .lt 15, 3) := by decide +kernel
theorem dX6_hasHouse_4 : decode cX6_hasHouse 4 = .ok (.iload_n 1, 1) := by decide +kernel
theorem dX6_hasHouse_5 : decode cX6_hasHouse 5 = .ok (.aload_n 0, 1) := by decide +kernel
theorem dX6_hasHouse_6 : decode cX6_hasHouse 6 = .ok (.getfield 37, 3) := by decide +kernel
theorem dX6_hasHouse_9 : decode cX6_hasHouse 9 = .ok (.if_icmp .ge 7, 3) := by decide +kernel
theorem dX6_hasHouse_12 : decode cX6_hasHouse 12 = .ok (.iconst 1, 1) := by decide +kernel
theorem dX6_hasHouse_13 : decode cX6_hasHouse 13 = .ok (.goto 4, 3) := by decide +kernel
theorem dX6_hasHouse_16 : decode cX6_hasHouse 16 = .ok (.iconst 0, 1) := by decide +kernel
theorem dX6_hasHouse_17 : decode cX6_hasHouse 17 = .ok (.ireturn, 1) := by decide +kernel
theorem dX6_areTwo_0 : decode cX6_areTwo 0 = .ok (.aload_n 0, 1) := by decide +kernel
theorem dX6_areTwo_1 : decode cX6_areTwo 1 = .ok (.iload_n 1, 1) := by decide +kernel
theorem dX6_areTwo_2 : decode cX6_areTwo 2 = .ok (.invokevirtual 60, 3) := by decide +kernel
theorem dX6_areTwo_5 : decode cX6_areTwo 5 = .ok (.ifCond .eq 20, 3) := by decide +kernel
theorem dX6_areTwo_8 : decode cX6_areTwo 8 = .ok (.aload_n 0, 1) := by decide +kernel
theorem dX6_areTwo_9 : decode cX6_areTwo 9 = .ok (.iload_n 2, 1) := by decide +kernel
theorem dX6_areTwo_10 : decode cX6_areTwo 10 = .ok (.invokevirtual 60, 3) := by decide +kernel
theorem dX6_areTwo_13 : decode cX6_areTwo 13 = .ok (.ifCond .eq 12, 3) := by decide +kernel
theorem dX6_areTwo_16 : decode cX6_areTwo 16 = .ok (.iload_n 1, 1) := by decide +kernel
theorem dX6_areTwo_17 : decode cX6_areTwo 17 = .ok (.iload_n 2, 1) := by decide +kernel
theorem dX6_areTwo_18 : decode cX6_areTwo 18 = .ok (.if_icmp .eq 7, 3) := by decide +kernel
theorem dX6_areTwo_21 : decode cX6_areTwo 21 = .ok (.iconst 1, 1) := by decide +kernel
theorem dX6_areTwo_22 : decode cX6_areTwo 22 = .ok (.goto 4, 3) := by decide +kernel
theorem dX6_areTwo_25 : decode cX6_areTwo 25 = .ok (.iconst 0, 1) := by decide +kernel
theorem dX6_areTwo_26 : decode cX6_areTwo 26 = .ok (.ireturn, 1) := by decide +kernel
theorem dX6_piecesOf_0 : decode cX6_piecesOf 0 = .ok (.aload_n 0, 1) := by decide +kernel
theorem dX6_piecesOf_1 : decode cX6_piecesOf 1 = .ok (.getfield 21, 3) := by decide +kernel
theorem dX6_piecesOf_4 : decode cX6_piecesOf 4 = .ok (.iload_n 1, 1) := by decide +kernel
theorem dX6_piecesOf_5 : decode cX6_piecesOf 5 = .ok (.iconst 3, 1) := by decide +kernel
theorem dX6_piecesOf_6 : decode cX6_piecesOf 6 = .ok (.imul, 1) := by decide +kernel
theorem dX6_piecesOf_7 : decode cX6_piecesOf 7 = .ok (.iload_n 2, 1) := by decide +kernel
theorem dX6_piecesOf_8 : decode cX6_piecesOf 8 = .ok (.iadd, 1) := by decide +kernel
theorem dX6_piecesOf_9 : decode cX6_piecesOf 9 = .ok (.iaload, 1) := by decide +kernel
theorem dX6_piecesOf_10 : decode cX6_piecesOf 10 = .ok (.ireturn, 1) := by decide +kernel
theorem dX6_addPieces_0 : decode cX6_addPieces 0 = .ok (.aload_n 0, 1) := by decide +kernel
theorem dX6_addPieces_1 : decode cX6_addPieces 1 = .ok (.getfield 21, 3) := by decide +kernel
theorem dX6_addPieces_4 : decode cX6_addPieces 4 = .ok (.iload_n 1, 1) := by decide +kernel
theorem dX6_addPieces_5 : decode cX6_addPieces 5 = .ok (.iconst 3, 1) := by decide +kernel
theorem dX6_addPieces_6 : decode cX6_addPieces 6 = .ok (.imul, 1) := by decide +kernel
theorem dX6_addPieces_7 : decode cX6_addPieces 7 = .ok (.iload_n 2, 1) := by decide +kernel
theorem dX6_addPieces_8 : decode cX6_addPieces 8 = .ok (.iadd, 1) := by decide +kernel
theorem dX6_addPieces_9 : decode cX6_addPieces 9 = .ok (.dup2, 1) := by decide +kernel
theorem dX6_addPieces_10 : decode cX6_addPieces 10 = .ok (.iaload, 1) := by decide +kernel
theorem dX6_addPieces_11 : decode cX6_addPieces 11 = .ok (.iload_n 3, 1) := by decide +kernel
theorem dX6_addPieces_12 : decode cX6_addPieces 12 = .ok (.iadd, 1) := by decide +kernel
theorem dX6_addPieces_13 : decode cX6_addPieces 13 = .ok (.iastore, 1) := by decide +kernel
theorem dX6_addPieces_14 : decode cX6_addPieces 14 = .ok (.return_, 1) := by decide +kernel
theorem dX6_isLawful_0 : decode cX6_isLawful 0 = .ok (.iload_n 1, 1) := by decide +kernel
theorem dX6_isLawful_1 : decode cX6_isLawful 1 = .ok (.iload_n 2, 1) := by decide +kernel
theorem dX6_isLawful_2 : decode cX6_isLawful 2 = .ok (.if_icmp .ne 5, 3) := by decide +kernel
theorem dX6_isLawful_5 : decode cX6_isLawful 5 = .ok (.iconst 0, 1) := by decide +kernel
theorem dX6_isLawful_6 : decode cX6_isLawful 6 = .ok (.ireturn, 1) := by decide +kernel
theorem dX6_isLawful_7 : decode cX6_isLawful 7 = .ok (.aload_n 0, 1) := by decide +kernel
theorem dX6_isLawful_8 : decode cX6_isLawful 8 = .ok (.getfield 11, 3) := by decide +kernel
theorem dX6_isLawful_11 : decode cX6_isLawful 11 = .ok (.iload_n 2, 1) := by decide +kernel
theorem dX6_isLawful_12 : decode cX6_isLawful 12 = .ok (.aaload, 1) := by decide +kernel
theorem dX6_isLawful_13 : decode cX6_isLawful 13 = .ok (.invokevirtual 64, 3) := by decide +kernel
theorem dX6_isLawful_16 : decode cX6_isLawful 16 = .ok (.istore_n 3, 1) := by decide +kernel
theorem dX6_isLawful_17 : decode cX6_isLawful 17 = .ok (.aload_n 0, 1) := by decide +kernel
theorem dX6_isLawful_18 : decode cX6_isLawful 18 = .ok (.getfield 11, 3) := by decide +kernel
theorem dX6_isLawful_21 : decode cX6_isLawful 21 = .ok (.iload_n 1, 1) := by decide +kernel
theorem dX6_isLawful_22 : decode cX6_isLawful 22 = .ok (.aaload, 1) := by decide +kernel
theorem dX6_isLawful_23 : decode cX6_isLawful 23 = .ok (.invokevirtual 68, 3) := by decide +kernel
theorem dX6_isLawful_26 : decode cX6_isLawful 26 = .ok (.istore 4, 2) := by decide +kernel
theorem dX6_isLawful_28 : decode cX6_isLawful 28 = .ok (.aload_n 0, 1) := by decide +kernel
theorem dX6_isLawful_29 : decode cX6_isLawful 29 = .ok (.getfield 51, 3) := by decide +kernel
theorem dX6_isLawful_32 : decode cX6_isLawful 32 = .ok (.lookupswitch 52 #[(0, 28), (1, 40)], 28) := by decide +kernel
theorem dX6_isLawful_60 : decode cX6_isLawful 60 = .ok (.iload_n 3, 1) := by decide +kernel
theorem dX6_isLawful_61 : decode cX6_isLawful 61 = .ok (.iload 4, 2) := by decide +kernel
theorem dX6_isLawful_63 : decode cX6_isLawful 63 = .ok (.if_icmp .ge 7, 3) := by decide +kernel
theorem dX6_isLawful_66 : decode cX6_isLawful 66 = .ok (.iconst 1, 1) := by decide +kernel
theorem dX6_isLawful_67 : decode cX6_isLawful 67 = .ok (.goto 4, 3) := by decide +kernel
theorem dX6_isLawful_70 : decode cX6_isLawful 70 = .ok (.iconst 0, 1) := by decide +kernel
theorem dX6_isLawful_71 : decode cX6_isLawful 71 = .ok (.ireturn, 1) := by decide +kernel
theorem dX6_isLawful_72 : decode cX6_isLawful 72 = .ok (.iload_n 3, 1) := by decide +kernel
theorem dX6_isLawful_73 : decode cX6_isLawful 73 = .ok (.iload 4, 2) := by decide +kernel
theorem dX6_isLawful_75 : decode cX6_isLawful 75 = .ok (.if_icmp .le 7, 3) := by decide +kernel
theorem dX6_isLawful_78 : decode cX6_isLawful 78 = .ok (.iconst 1, 1) := by decide +kernel
theorem dX6_isLawful_79 : decode cX6_isLawful 79 = .ok (.goto 4, 3) := by decide +kernel
theorem dX6_isLawful_82 : decode cX6_isLawful 82 = .ok (.iconst 0, 1) := by decide +kernel
theorem dX6_isLawful_83 : decode cX6_isLawful 83 = .ok (.ireturn, 1) := by decide +kernel
theorem dX6_isLawful_84 : decode cX6_isLawful 84 = .ok (.iconst 1, 1) := by decide +kernel
theorem dX6_isLawful_85 : decode cX6_isLawful 85 = .ok (.ireturn, 1) := by decide +kernel
theorem dX6_hasMeans_0 : decode cX6_hasMeans 0 = .ok (.aload_n 0, 1) := by decide +kernel
theorem dX6_hasMeans_1 : decode cX6_hasMeans 1 = .ok (.iload_n 1, 1) := by decide +kernel
theorem dX6_hasMeans_2 : decode cX6_hasMeans 2 = .ok (.iload_n 3, 1) := by decide +kernel
theorem dX6_hasMeans_3 : decode cX6_hasMeans 3 = .ok (.invokevirtual 71, 3) := by decide +kernel
theorem dX6_hasMeans_6 : decode cX6_hasMeans 6 = .ok (.ifCond .le 52, 3) := by decide +kernel
theorem dX6_hasMeans_9 : decode cX6_hasMeans 9 = .ok (.aload_n 0, 1) := by decide +kernel
theorem dX6_hasMeans_10 : decode cX6_hasMeans 10 = .ok (.getfield 17, 3) := by decide +kernel
theorem dX6_hasMeans_13 : decode cX6_hasMeans 13 = .ok (.iload_n 2, 1) := by decide +kernel
theorem dX6_hasMeans_14 : decode cX6_hasMeans 14 = .ok (.iaload, 1) := by decide +kernel
theorem dX6_hasMeans_15 : decode cX6_hasMeans 15 = .ok (.aload_n 0, 1) := by decide +kernel
theorem dX6_hasMeans_16 : decode cX6_hasMeans 16 = .ok (.getfield 24, 3) := by decide +kernel
theorem dX6_hasMeans_19 : decode cX6_hasMeans 19 = .ok (.iload_n 3, 1) := by decide +kernel
theorem dX6_hasMeans_20 : decode cX6_hasMeans 20 = .ok (.iaload, 1) := by decide +kernel
theorem dX6_hasMeans_21 : decode cX6_hasMeans 21 = .ok (.if_icmp .lt 37, 3) := by decide +kernel
theorem dX6_hasMeans_24 : decode cX6_hasMeans 24 = .ok (.aload_n 0, 1) := by decide +kernel
theorem dX6_hasMeans_25 : decode cX6_hasMeans 25 = .ok (.iload_n 2, 1) := by decide +kernel
theorem dX6_hasMeans_26 : decode cX6_hasMeans 26 = .ok (.iload_n 3, 1) := by decide +kernel
theorem dX6_hasMeans_27 : decode cX6_hasMeans 27 = .ok (.invokevirtual 71, 3) := by decide +kernel
theorem dX6_hasMeans_30 : decode cX6_hasMeans 30 = .ok (.bipush 99, 2) := by decide +kernel
theorem dX6_hasMeans_32 : decode cX6_hasMeans 32 = .ok (.if_icmp .ge 26, 3) := by decide +kernel
theorem dX6_hasMeans_35 : decode cX6_hasMeans 35 = .ok (.aload_n 0, 1) := by decide +kernel
theorem dX6_hasMeans_36 : decode cX6_hasMeans 36 = .ok (.getfield 17, 3) := by decide +kernel
theorem dX6_hasMeans_39 : decode cX6_hasMeans 39 = .ok (.iload_n 1, 1) := by decide +kernel
theorem dX6_hasMeans_40 : decode cX6_hasMeans 40 = .ok (.iaload, 1) := by decide +kernel
theorem dX6_hasMeans_41 : decode cX6_hasMeans 41 = .ok (.aload_n 0, 1) := by decide +kernel
theorem dX6_hasMeans_42 : decode cX6_hasMeans 42 = .ok (.getfield 24, 3) := by decide +kernel
theorem dX6_hasMeans_45 : decode cX6_hasMeans 45 = .ok (.iload_n 3, 1) := by decide +kernel
theorem dX6_hasMeans_46 : decode cX6_hasMeans 46 = .ok (.iaload, 1) := by decide +kernel
theorem dX6_hasMeans_47 : decode cX6_hasMeans 47 = .ok (.iadd, 1) := by decide +kernel
theorem dX6_hasMeans_48 : decode cX6_hasMeans 48 = .ok (.sipush 9999, 3) := by decide +kernel
theorem dX6_hasMeans_51 : decode cX6_hasMeans 51 = .ok (.if_icmp .gt 7, 3) := by decide +kernel
theorem dX6_hasMeans_54 : decode cX6_hasMeans 54 = .ok (.iconst 1, 1) := by decide +kernel
theorem dX6_hasMeans_55 : decode cX6_hasMeans 55 = .ok (.goto 4, 3) := by decide +kernel
theorem dX6_hasMeans_58 : decode cX6_hasMeans 58 = .ok (.iconst 0, 1) := by decide +kernel
theorem dX6_hasMeans_59 : decode cX6_hasMeans 59 = .ok (.ireturn, 1) := by decide +kernel
theorem dX6_moveOnePiece_0 : decode cX6_moveOnePiece 0 = .ok (.aload_n 0, 1) := by decide +kernel
theorem dX6_moveOnePiece_1 : decode cX6_moveOnePiece 1 = .ok (.iload_n 1, 1) := by decide +kernel
theorem dX6_moveOnePiece_2 : decode cX6_moveOnePiece 2 = .ok (.iload_n 3, 1) := by decide +kernel
theorem dX6_moveOnePiece_3 : decode cX6_moveOnePiece 3 = .ok (.iconst (-1), 1) := by decide +kernel
theorem dX6_moveOnePiece_4 : decode cX6_moveOnePiece 4 = .ok (.invokevirtual 75, 3) := by decide +kernel
theorem dX6_moveOnePiece_7 : decode cX6_moveOnePiece 7 = .ok (.aload_n 0, 1) := by decide +kernel
theorem dX6_moveOnePiece_8 : decode cX6_moveOnePiece 8 = .ok (.iload_n 2, 1) := by decide +kernel
theorem dX6_moveOnePiece_9 : decode cX6_moveOnePiece 9 = .ok (.iload_n 3, 1) := by decide +kernel
theorem dX6_moveOnePiece_10 : decode cX6_moveOnePiece 10 = .ok (.iconst 1, 1) := by decide +kernel
theorem dX6_moveOnePiece_11 : decode cX6_moveOnePiece 11 = .ok (.invokevirtual 75, 3) := by decide +kernel
theorem dX6_moveOnePiece_14 : decode cX6_moveOnePiece 14 = .ok (.aload_n 0, 1) := by decide +kernel
theorem dX6_moveOnePiece_15 : decode cX6_moveOnePiece 15 = .ok (.getfield 17, 3) := by decide +kernel
theorem dX6_moveOnePiece_18 : decode cX6_moveOnePiece 18 = .ok (.iload_n 2, 1) := by decide +kernel
theorem dX6_moveOnePiece_19 : decode cX6_moveOnePiece 19 = .ok (.dup2, 1) := by decide +kernel
theorem dX6_moveOnePiece_20 : decode cX6_moveOnePiece 20 = .ok (.iaload, 1) := by decide +kernel
theorem dX6_moveOnePiece_21 : decode cX6_moveOnePiece 21 = .ok (.aload_n 0, 1) := by decide +kernel
theorem dX6_moveOnePiece_22 : decode cX6_moveOnePiece 22 = .ok (.getfield 24, 3) := by decide +kernel
theorem dX6_moveOnePiece_25 : decode cX6_moveOnePiece 25 = .ok (.iload_n 3, 1) := by decide +kernel
theorem dX6_moveOnePiece_26 : decode cX6_moveOnePiece 26 = .ok (.iaload, 1) := by decide +kernel
theorem dX6_moveOnePiece_27 : decode cX6_moveOnePiece 27 = .ok (.isub, 1) := by decide +kernel
theorem dX6_moveOnePiece_28 : decode cX6_moveOnePiece 28 = .ok (.iastore, 1) := by decide +kernel
theorem dX6_moveOnePiece_29 : decode cX6_moveOnePiece 29 = .ok (.aload_n 0, 1) := by decide +kernel
theorem dX6_moveOnePiece_30 : decode cX6_moveOnePiece 30 = .ok (.getfield 17, 3) := by decide +kernel
theorem dX6_moveOnePiece_33 : decode cX6_moveOnePiece 33 = .ok (.iload_n 1, 1) := by decide +kernel
theorem dX6_moveOnePiece_34 : decode cX6_moveOnePiece 34 = .ok (.dup2, 1) := by decide +kernel
theorem dX6_moveOnePiece_35 : decode cX6_moveOnePiece 35 = .ok (.iaload, 1) := by decide +kernel
theorem dX6_moveOnePiece_36 : decode cX6_moveOnePiece 36 = .ok (.aload_n 0, 1) := by decide +kernel
theorem dX6_moveOnePiece_37 : decode cX6_moveOnePiece 37 = .ok (.getfield 24, 3) := by decide +kernel
theorem dX6_moveOnePiece_40 : decode cX6_moveOnePiece 40 = .ok (.iload_n 3, 1) := by decide +kernel
theorem dX6_moveOnePiece_41 : decode cX6_moveOnePiece 41 = .ok (.iaload, 1) := by decide +kernel
theorem dX6_moveOnePiece_42 : decode cX6_moveOnePiece 42 = .ok (.iadd, 1) := by decide +kernel
theorem dX6_moveOnePiece_43 : decode cX6_moveOnePiece 43 = .ok (.iastore, 1) := by decide +kernel
theorem dX6_moveOnePiece_44 : decode cX6_moveOnePiece 44 = .ok (.return_, 1) := by decide +kernel
theorem dX6_trySale_0 : decode cX6_trySale 0 = .ok (.aload_n 0, 1) := by decide +kernel
theorem dX6_trySale_1 : decode cX6_trySale 1 = .ok (.iload_n 1, 1) := by decide +kernel
theorem dX6_trySale_2 : decode cX6_trySale 2 = .ok (.iload_n 2, 1) := by decide +kernel
theorem dX6_trySale_3 : decode cX6_trySale 3 = .ok (.invokevirtual 79, 3) := by decide +kernel
theorem dX6_trySale_6 : decode cX6_trySale 6 = .ok (.ifCond .eq 29, 3) := by decide +kernel
theorem dX6_trySale_9 : decode cX6_trySale 9 = .ok (.iload_n 3, 1) := by decide +kernel
theorem dX6_trySale_10 : decode cX6_trySale 10 = .ok (.invokestatic 83, 3) := by decide +kernel
theorem dX6_trySale_13 : decode cX6_trySale 13 = .ok (.ifCond .eq 22, 3) := by decide +kernel
theorem dX6_trySale_16 : decode cX6_trySale 16 = .ok (.aload_n 0, 1) := by decide +kernel
theorem dX6_trySale_17 : decode cX6_trySale 17 = .ok (.iload_n 1, 1) := by decide +kernel
theorem dX6_trySale_18 : decode cX6_trySale 18 = .ok (.iload_n 2, 1) := by decide +kernel
theorem dX6_trySale_19 : decode cX6_trySale 19 = .ok (.invokevirtual 86, 3) := by decide +kernel
theorem dX6_trySale_22 : decode cX6_trySale 22 = .ok (.ifCond .eq 13, 3) := by decide +kernel
theorem dX6_trySale_25 : decode cX6_trySale 25 = .ok (.aload_n 0, 1) := by decide +kernel
theorem dX6_trySale_26 : decode cX6_trySale 26 = .ok (.iload_n 1, 1) := by decide +kernel
theorem dX6_trySale_27 : decode cX6_trySale 27 = .ok (.iload_n 2, 1) := by decide +kernel
theorem dX6_trySale_28 : decode cX6_trySale 28 = .ok (.iload_n 3, 1) := by decide +kernel
theorem dX6_trySale_29 : decode cX6_trySale 29 = .ok (.invokevirtual 89, 3) := by decide +kernel
theorem dX6_trySale_32 : decode cX6_trySale 32 = .ok (.ifCond .ne 5, 3) := by decide +kernel
theorem dX6_trySale_35 : decode cX6_trySale 35 = .ok (.iconst 0, 1) := by decide +kernel
theorem dX6_trySale_36 : decode cX6_trySale 36 = .ok (.ireturn, 1) := by decide +kernel
theorem dX6_trySale_37 : decode cX6_trySale 37 = .ok (.aload_n 0, 1) := by decide +kernel
theorem dX6_trySale_38 : decode cX6_trySale 38 = .ok (.iload_n 1, 1) := by decide +kernel
theorem dX6_trySale_39 : decode cX6_trySale 39 = .ok (.iload_n 2, 1) := by decide +kernel
theorem dX6_trySale_40 : decode cX6_trySale 40 = .ok (.iload_n 3, 1) := by decide +kernel
theorem dX6_trySale_41 : decode cX6_trySale 41 = .ok (.invokevirtual 93, 3) := by decide +kernel
theorem dX6_trySale_44 : decode cX6_trySale 44 = .ok (.iconst 1, 1) := by decide +kernel
theorem dX6_trySale_45 : decode cX6_trySale 45 = .ok (.ireturn, 1) := by decide +kernel
theorem dX6_passWeek_0 : decode cX6_passWeek 0 = .ok (.aload_n 1, 1) := by decide +kernel
theorem dX6_passWeek_1 : decode cX6_passWeek 1 = .ok (.invokevirtual 96, 3) := by decide +kernel
theorem dX6_passWeek_4 : decode cX6_passWeek 4 = .ok (.iconst 0, 1) := by decide +kernel
theorem dX6_passWeek_5 : decode cX6_passWeek 5 = .ok (.istore_n 2, 1) := by decide +kernel
theorem dX6_passWeek_6 : decode cX6_passWeek 6 = .ok (.iload_n 2, 1) := by decide +kernel
theorem dX6_passWeek_7 : decode cX6_passWeek 7 = .ok (.aload_n 0, 1) := by decide +kernel
theorem dX6_passWeek_8 : decode cX6_passWeek 8 = .ok (.getfield 37, 3) := by decide +kernel
theorem dX6_passWeek_11 : decode cX6_passWeek 11 = .ok (.if_icmp .ge 14, 3) := by decide +kernel
theorem dX6_passWeek_14 : decode cX6_passWeek 14 = .ok (.aload_n 0, 1) := by decide +kernel
theorem dX6_passWeek_15 : decode cX6_passWeek 15 = .ok (.iload_n 2, 1) := by decide +kernel
theorem dX6_passWeek_16 : decode cX6_passWeek 16 = .ok (.invokevirtual 101, 3) := by decide +kernel
theorem dX6_passWeek_19 : decode cX6_passWeek 19 = .ok (.iinc 2 1, 3) := by decide +kernel
theorem dX6_passWeek_22 : decode cX6_passWeek 22 = .ok (.goto (-16), 3) := by decide +kernel
theorem dX6_passWeek_25 : decode cX6_passWeek 25 = .ok (.iconst 0, 1) := by decide +kernel
theorem dX6_passWeek_26 : decode cX6_passWeek 26 = .ok (.istore_n 2, 1) := by decide +kernel
theorem dX6_passWeek_27 : decode cX6_passWeek 27 = .ok (.iload_n 2, 1) := by decide +kernel
theorem dX6_passWeek_28 : decode cX6_passWeek 28 = .ok (.aload_n 0, 1) := by decide +kernel
theorem dX6_passWeek_29 : decode cX6_passWeek 29 = .ok (.getfield 37, 3) := by decide +kernel
theorem dX6_passWeek_32 : decode cX6_passWeek 32 = .ok (.if_icmp .ge 23, 3) := by decide +kernel
theorem dX6_passWeek_35 : decode cX6_passWeek 35 = .ok (.aload_n 1, 1) := by decide +kernel
theorem dX6_passWeek_36 : decode cX6_passWeek 36 = .ok (.dup, 1) := by decide +kernel
theorem dX6_passWeek_37 : decode cX6_passWeek 37 = .ok (.getfield 105, 3) := by decide +kernel
theorem dX6_passWeek_40 : decode cX6_passWeek 40 = .ok (.aload_n 0, 1) := by decide +kernel
theorem dX6_passWeek_41 : decode cX6_passWeek 41 = .ok (.iload_n 2, 1) := by decide +kernel
theorem dX6_passWeek_42 : decode cX6_passWeek 42 = .ok (.invokevirtual 108, 3) := by decide +kernel
theorem dX6_passWeek_45 : decode cX6_passWeek 45 = .ok (.iadd, 1) := by decide +kernel
theorem dX6_passWeek_46 : decode cX6_passWeek 46 = .ok (.putfield 105, 3) := by decide +kernel
theorem dX6_passWeek_49 : decode cX6_passWeek 49 = .ok (.iinc 2 1, 3) := by decide +kernel
theorem dX6_passWeek_52 : decode cX6_passWeek 52 = .ok (.goto (-25), 3) := by decide +kernel
theorem dX6_passWeek_55 : decode cX6_passWeek 55 = .ok (.iconst 0, 1) := by decide +kernel
theorem dX6_passWeek_56 : decode cX6_passWeek 56 = .ok (.istore_n 2, 1) := by decide +kernel
theorem dX6_passWeek_57 : decode cX6_passWeek 57 = .ok (.iload_n 2, 1) := by decide +kernel
theorem dX6_passWeek_58 : decode cX6_passWeek 58 = .ok (.aload_n 0, 1) := by decide +kernel
theorem dX6_passWeek_59 : decode cX6_passWeek 59 = .ok (.getfield 37, 3) := by decide +kernel
theorem dX6_passWeek_62 : decode cX6_passWeek 62 = .ok (.if_icmp .ge 28, 3) := by decide +kernel
theorem dX6_passWeek_65 : decode cX6_passWeek 65 = .ok (.aload_n 1, 1) := by decide +kernel
theorem dX6_passWeek_66 : decode cX6_passWeek 66 = .ok (.iload_n 2, 1) := by decide +kernel
theorem dX6_passWeek_67 : decode cX6_passWeek 67 = .ok (.aload_n 0, 1) := by decide +kernel
theorem dX6_passWeek_68 : decode cX6_passWeek 68 = .ok (.iload_n 2, 1) := by decide +kernel
theorem dX6_passWeek_69 : decode cX6_passWeek 69 = .ok (.invokevirtual 112, 3) := by decide +kernel
theorem dX6_passWeek_72 : decode cX6_passWeek 72 = .ok (.aload_n 0, 1) := by decide +kernel
theorem dX6_passWeek_73 : decode cX6_passWeek 73 = .ok (.getfield 11, 3) := by decide +kernel
theorem dX6_passWeek_76 : decode cX6_passWeek 76 = .ok (.iload_n 2, 1) := by decide +kernel
theorem dX6_passWeek_77 : decode cX6_passWeek 77 = .ok (.aaload, 1) := by decide +kernel
theorem dX6_passWeek_78 : decode cX6_passWeek 78 = .ok (.getfield 115, 3) := by decide +kernel
theorem dX6_passWeek_81 : decode cX6_passWeek 81 = .ok (.invokevirtual 118, 3) := by decide +kernel
theorem dX6_passWeek_84 : decode cX6_passWeek 84 = .ok (.iinc 2 1, 3) := by decide +kernel
theorem dX6_passWeek_87 : decode cX6_passWeek 87 = .ok (.goto (-30), 3) := by decide +kernel
theorem dX6_passWeek_90 : decode cX6_passWeek 90 = .ok (.aload_n 0, 1) := by decide +kernel
theorem dX6_passWeek_91 : decode cX6_passWeek 91 = .ok (.dup, 1) := by decide +kernel
theorem dX6_passWeek_92 : decode cX6_passWeek 92 = .ok (.getfield 54, 3) := by decide +kernel
theorem dX6_passWeek_95 : decode cX6_passWeek 95 = .ok (.iconst 1, 1) := by decide +kernel
theorem dX6_passWeek_96 : decode cX6_passWeek 96 = .ok (.iadd, 1) := by decide +kernel
theorem dX6_passWeek_97 : decode cX6_passWeek 97 = .ok (.putfield 54, 3) := by decide +kernel
theorem dX6_passWeek_100 : decode cX6_passWeek 100 = .ok (.return_, 1) := by decide +kernel
theorem dX6_makeGoods_0 : decode cX6_makeGoods 0 = .ok (.aload_n 0, 1) := by decide +kernel
theorem dX6_makeGoods_1 : decode cX6_makeGoods 1 = .ok (.getfield 11, 3) := by decide +kernel
theorem dX6_makeGoods_4 : decode cX6_makeGoods 4 = .ok (.iload_n 1, 1) := by decide +kernel
theorem dX6_makeGoods_5 : decode cX6_makeGoods 5 = .ok (.aaload, 1) := by decide +kernel
theorem dX6_makeGoods_6 : decode cX6_makeGoods 6 = .ok (.astore_n 2, 1) := by decide +kernel
theorem dX6_makeGoods_7 : decode cX6_makeGoods 7 = .ok (.bipush 99, 2) := by decide +kernel
theorem dX6_makeGoods_9 : decode cX6_makeGoods 9 = .ok (.aload_n 0, 1) := by decide +kernel
theorem dX6_makeGoods_10 : decode cX6_makeGoods 10 = .ok (.iload_n 1, 1) := by decide +kernel
theorem dX6_makeGoods_11 : decode cX6_makeGoods 11 = .ok (.aload_n 2, 1) := by decide +kernel
theorem dX6_makeGoods_12 : decode cX6_makeGoods 12 = .ok (.getfield 121, 3) := by decide +kernel
theorem dX6_makeGoods_15 : decode cX6_makeGoods 15 = .ok (.invokevirtual 71, 3) := by decide +kernel
theorem dX6_makeGoods_18 : decode cX6_makeGoods 18 = .ok (.isub, 1) := by decide +kernel
theorem dX6_makeGoods_19 : decode cX6_makeGoods 19 = .ok (.istore_n 3, 1) := by decide +kernel
theorem dX6_makeGoods_20 : decode cX6_makeGoods 20 = .ok (.aload_n 0, 1) := by decide +kernel
theorem dX6_makeGoods_21 : decode cX6_makeGoods 21 = .ok (.iload_n 1, 1) := by decide +kernel
theorem dX6_makeGoods_22 : decode cX6_makeGoods 22 = .ok (.aload_n 2, 1) := by decide +kernel
theorem dX6_makeGoods_23 : decode cX6_makeGoods 23 = .ok (.getfield 121, 3) := by decide +kernel
theorem dX6_makeGoods_26 : decode cX6_makeGoods 26 = .ok (.aload_n 2, 1) := by decide +kernel
theorem dX6_makeGoods_27 : decode cX6_makeGoods 27 = .ok (.getfield 124, 3) := by decide +kernel
theorem dX6_makeGoods_30 : decode cX6_makeGoods 30 = .ok (.iload_n 3, 1) := by decide +kernel
theorem dX6_makeGoods_31 : decode cX6_makeGoods 31 = .ok (.invokestatic 127, 3) := by decide +kernel
theorem dX6_makeGoods_34 : decode cX6_makeGoods 34 = .ok (.invokevirtual 75, 3) := by decide +kernel
theorem dX6_makeGoods_37 : decode cX6_makeGoods 37 = .ok (.return_, 1) := by decide +kernel
theorem dX6_buyWanted_0 : decode cX6_buyWanted 0 = .ok (.aload_n 0, 1) := by decide +kernel
theorem dX6_buyWanted_1 : decode cX6_buyWanted 1 = .ok (.getfield 11, 3) := by decide +kernel
theorem dX6_buyWanted_4 : decode cX6_buyWanted 4 = .ok (.iload_n 1, 1) := by decide +kernel
theorem dX6_buyWanted_5 : decode cX6_buyWanted 5 = .ok (.aaload, 1) := by decide +kernel
theorem dX6_buyWanted_6 : decode cX6_buyWanted 6 = .ok (.getfield 132, 3) := by decide +kernel
theorem dX6_buyWanted_9 : decode cX6_buyWanted 9 = .ok (.istore_n 2, 1) := by decide +kernel
theorem dX6_buyWanted_10 : decode cX6_buyWanted 10 = .ok (.aload_n 0, 1) := by decide +kernel
theorem dX6_buyWanted_11 : decode cX6_buyWanted 11 = .ok (.getfield 11, 3) := by decide +kernel
theorem dX6_buyWanted_14 : decode cX6_buyWanted 14 = .ok (.iload_n 1, 1) := by decide +kernel
theorem dX6_buyWanted_15 : decode cX6_buyWanted 15 = .ok (.aaload, 1) := by decide +kernel
theorem dX6_buyWanted_16 : decode cX6_buyWanted 16 = .ok (.getfield 115, 3) := by decide +kernel
theorem dX6_buyWanted_19 : decode cX6_buyWanted 19 = .ok (.aload_n 0, 1) := by decide +kernel
theorem dX6_buyWanted_20 : decode cX6_buyWanted 20 = .ok (.iload_n 1, 1) := by decide +kernel
theorem dX6_buyWanted_21 : decode cX6_buyWanted 21 = .ok (.iload_n 2, 1) := by decide +kernel
theorem dX6_buyWanted_22 : decode cX6_buyWanted 22 = .ok (.invokevirtual 71, 3) := by decide +kernel
theorem dX6_buyWanted_25 : decode cX6_buyWanted 25 = .ok (.isub, 1) := by decide +kernel
theorem dX6_buyWanted_26 : decode cX6_buyWanted 26 = .ok (.istore_n 3, 1) := by decide +kernel
theorem dX6_buyWanted_27 : decode cX6_buyWanted 27 = .ok (.iconst 0, 1) := by decide +kernel
theorem dX6_buyWanted_28 : decode cX6_buyWanted 28 = .ok (.istore 4, 2) := by decide +kernel
theorem dX6_buyWanted_30 : decode cX6_buyWanted 30 = .ok (.iload 4, 2) := by decide +kernel
theorem dX6_buyWanted_32 : decode cX6_buyWanted 32 = .ok (.iload_n 3, 1) := by decide +kernel
theorem dX6_buyWanted_33 : decode cX6_buyWanted 33 = .ok (.if_icmp .ge 33, 3) := by decide +kernel
theorem dX6_buyWanted_36 : decode cX6_buyWanted 36 = .ok (.aload_n 0, 1) := by decide +kernel
theorem dX6_buyWanted_37 : decode cX6_buyWanted 37 = .ok (.iload_n 1, 1) := by decide +kernel
theorem dX6_buyWanted_38 : decode cX6_buyWanted 38 = .ok (.iload_n 2, 1) := by decide +kernel
theorem dX6_buyWanted_39 : decode cX6_buyWanted 39 = .ok (.invokevirtual 135, 3) := by decide +kernel
theorem dX6_buyWanted_42 : decode cX6_buyWanted 42 = .ok (.istore 5, 2) := by decide +kernel
theorem dX6_buyWanted_44 : decode cX6_buyWanted 44 = .ok (.iload 5, 2) := by decide +kernel
theorem dX6_buyWanted_46 : decode cX6_buyWanted 46 = .ok (.ifCond .ge 6, 3) := by decide +kernel
theorem dX6_buyWanted_49 : decode cX6_buyWanted 49 = .ok (.iload 4, 2) := by decide +kernel
theorem dX6_buyWanted_51 : decode cX6_buyWanted 51 = .ok (.ireturn, 1) := by decide +kernel
theorem dX6_buyWanted_52 : decode cX6_buyWanted 52 = .ok (.aload_n 0, 1) := by decide +kernel
theorem dX6_buyWanted_53 : decode cX6_buyWanted 53 = .ok (.iload 5, 2) := by decide +kernel
theorem dX6_buyWanted_55 : decode cX6_buyWanted 55 = .ok (.iload_n 1, 1) := by decide +kernel
theorem dX6_buyWanted_56 : decode cX6_buyWanted 56 = .ok (.iload_n 2, 1) := by decide +kernel
theorem dX6_buyWanted_57 : decode cX6_buyWanted 57 = .ok (.invokevirtual 93, 3) := by decide +kernel
theorem dX6_buyWanted_60 : decode cX6_buyWanted 60 = .ok (.iinc 4 1, 3) := by decide +kernel
theorem dX6_buyWanted_63 : decode cX6_buyWanted 63 = .ok (.goto (-33), 3) := by decide +kernel
theorem dX6_buyWanted_66 : decode cX6_buyWanted 66 = .ok (.iconst 0, 1) := by decide +kernel
theorem dX6_buyWanted_67 : decode cX6_buyWanted 67 = .ok (.iload_n 3, 1) := by decide +kernel
theorem dX6_buyWanted_68 : decode cX6_buyWanted 68 = .ok (.invokestatic 138, 3) := by decide +kernel
theorem dX6_buyWanted_71 : decode cX6_buyWanted 71 = .ok (.ireturn, 1) := by decide +kernel
theorem dX6_fullestSellerTo_0 : decode cX6_fullestSellerTo 0 = .ok (.iconst (-1), 1) := by decide +kernel
theorem dX6_fullestSellerTo_1 : decode cX6_fullestSellerTo 1 = .ok (.istore_n 3, 1) := by decide +kernel
theorem dX6_fullestSellerTo_2 : decode cX6_fullestSellerTo 2 = .ok (.iconst 0, 1) := by decide +kernel
theorem dX6_fullestSellerTo_3 : decode cX6_fullestSellerTo 3 = .ok (.istore 4, 2) := by decide +kernel
theorem dX6_fullestSellerTo_5 : decode cX6_fullestSellerTo 5 = .ok (.iload 4, 2) := by decide +kernel
theorem dX6_fullestSellerTo_7 : decode cX6_fullestSellerTo 7 = .ok (.aload_n 0, 1) := by decide +kernel
theorem dX6_fullestSellerTo_8 : decode cX6_fullestSellerTo 8 = .ok (.getfield 37, 3) := by decide +kernel
theorem dX6_fullestSellerTo_11 : decode cX6_fullestSellerTo 11 = .ok (.if_icmp .ge 67, 3) := by decide +kernel
theorem dX6_fullestSellerTo_14 : decode cX6_fullestSellerTo 14 = .ok (.aload_n 0, 1) := by decide +kernel
theorem dX6_fullestSellerTo_15 : decode cX6_fullestSellerTo 15 = .ok (.getfield 11, 3) := by decide +kernel
theorem dX6_fullestSellerTo_18 : decode cX6_fullestSellerTo 18 = .ok (.iload 4, 2) := by decide +kernel
theorem dX6_fullestSellerTo_20 : decode cX6_fullestSellerTo 20 = .ok (.aaload, 1) := by decide +kernel
theorem dX6_fullestSellerTo_21 : decode cX6_fullestSellerTo 21 = .ok (.iload_n 2, 1) := by decide +kernel
theorem dX6_fullestSellerTo_22 : decode cX6_fullestSellerTo 22 = .ok (.invokevirtual 141, 3) := by decide +kernel
theorem dX6_fullestSellerTo_25 : decode cX6_fullestSellerTo 25 = .ok (.ifCond .ne 47, 3) := by decide +kernel
theorem dX6_fullestSellerTo_28 : decode cX6_fullestSellerTo 28 = .ok (.aload_n 0, 1) := by decide +kernel
theorem dX6_fullestSellerTo_29 : decode cX6_fullestSellerTo 29 = .ok (.iload 4, 2) := by decide +kernel
theorem dX6_fullestSellerTo_31 : decode cX6_fullestSellerTo 31 = .ok (.iload_n 1, 1) := by decide +kernel
theorem dX6_fullestSellerTo_32 : decode cX6_fullestSellerTo 32 = .ok (.invokevirtual 86, 3) := by decide +kernel
theorem dX6_fullestSellerTo_35 : decode cX6_fullestSellerTo 35 = .ok (.ifCond .eq 37, 3) := by decide +kernel
theorem dX6_fullestSellerTo_38 : decode cX6_fullestSellerTo 38 = .ok (.aload_n 0, 1) := by decide +kernel
theorem dX6_fullestSellerTo_39 : decode cX6_fullestSellerTo 39 = .ok (.iload 4, 2) := by decide +kernel
theorem dX6_fullestSellerTo_41 : decode cX6_fullestSellerTo 41 = .ok (.iload_n 1, 1) := by decide +kernel
theorem dX6_fullestSellerTo_42 : decode cX6_fullestSellerTo 42 = .ok (.iload_n 2, 1) := by decide +kernel
theorem dX6_fullestSellerTo_43 : decode cX6_fullestSellerTo 43 = .ok (.invokevirtual 89, 3) := by decide +kernel
theorem dX6_fullestSellerTo_46 : decode cX6_fullestSellerTo 46 = .ok (.ifCond .eq 26, 3) := by decide +kernel
theorem dX6_fullestSellerTo_49 : decode cX6_fullestSellerTo 49 = .ok (.iload_n 3, 1) := by decide +kernel
theorem dX6_fullestSellerTo_50 : decode cX6_fullestSellerTo 50 = .ok (.ifCond .lt 19, 3) := by decide +kernel
theorem dX6_fullestSellerTo_53 : decode cX6_fullestSellerTo 53 = .ok (.aload_n 0, 1) := by decide +kernel
theorem dX6_fullestSellerTo_54 : decode cX6_fullestSellerTo 54 = .ok (.iload 4, 2) := by decide +kernel
theorem dX6_fullestSellerTo_56 : decode cX6_fullestSellerTo 56 = .ok (.iload_n 2, 1) := by decide +kernel
theorem dX6_fullestSellerTo_57 : decode cX6_fullestSellerTo 57 = .ok (.invokevirtual 71, 3) := by decide +kernel
theorem dX6_fullestSellerTo_60 : decode cX6_fullestSellerTo 60 = .ok (.aload_n 0, 1) := by decide +kernel
theorem dX6_fullestSellerTo_61 : decode cX6_fullestSellerTo 61 = .ok (.iload_n 3, 1) := by decide +kernel
theorem dX6_fullestSellerTo_62 : decode cX6_fullestSellerTo 62 = .ok (.iload_n 2, 1) := by decide +kernel
theorem dX6_fullestSellerTo_63 : decode cX6_fullestSellerTo 63 = .ok (.invokevirtual 71, 3) := by decide +kernel
theorem dX6_fullestSellerTo_66 : decode cX6_fullestSellerTo 66 = .ok (.if_icmp .le 6, 3) := by decide +kernel
theorem dX6_fullestSellerTo_69 : decode cX6_fullestSellerTo 69 = .ok (.iload 4, 2) := by decide +kernel
theorem dX6_fullestSellerTo_71 : decode cX6_fullestSellerTo 71 = .ok (.istore_n 3, 1) := by decide +kernel
theorem dX6_fullestSellerTo_72 : decode cX6_fullestSellerTo 72 = .ok (.iinc 4 1, 3) := by decide +kernel
theorem dX6_fullestSellerTo_75 : decode cX6_fullestSellerTo 75 = .ok (.goto (-70), 3) := by decide +kernel
theorem dX6_fullestSellerTo_78 : decode cX6_fullestSellerTo 78 = .ok (.iload_n 3, 1) := by decide +kernel
theorem dX6_fullestSellerTo_79 : decode cX6_fullestSellerTo 79 = .ok (.ireturn, 1) := by decide +kernel
theorem dX6_useWanted_0 : decode cX6_useWanted 0 = .ok (.aload_n 0, 1) := by decide +kernel
theorem dX6_useWanted_1 : decode cX6_useWanted 1 = .ok (.getfield 11, 3) := by decide +kernel
theorem dX6_useWanted_4 : decode cX6_useWanted 4 = .ok (.iload_n 1, 1) := by decide +kernel
theorem dX6_useWanted_5 : decode cX6_useWanted 5 = .ok (.aaload, 1) := by decide +kernel
theorem dX6_useWanted_6 : decode cX6_useWanted 6 = .ok (.getfield 132, 3) := by decide +kernel
theorem dX6_useWanted_9 : decode cX6_useWanted 9 = .ok (.istore_n 2, 1) := by decide +kernel
theorem dX6_useWanted_10 : decode cX6_useWanted 10 = .ok (.aload_n 0, 1) := by decide +kernel
theorem dX6_useWanted_11 : decode cX6_useWanted 11 = .ok (.getfield 11, 3) := by decide +kernel
theorem dX6_useWanted_14 : decode cX6_useWanted 14 = .ok (.iload_n 1, 1) := by decide +kernel
theorem dX6_useWanted_15 : decode cX6_useWanted 15 = .ok (.aaload, 1) := by decide +kernel
theorem dX6_useWanted_16 : decode cX6_useWanted 16 = .ok (.getfield 115, 3) := by decide +kernel
theorem dX6_useWanted_19 : decode cX6_useWanted 19 = .ok (.aload_n 0, 1) := by decide +kernel
theorem dX6_useWanted_20 : decode cX6_useWanted 20 = .ok (.iload_n 1, 1) := by decide +kernel
theorem dX6_useWanted_21 : decode cX6_useWanted 21 = .ok (.iload_n 2, 1) := by decide +kernel
theorem dX6_useWanted_22 : decode cX6_useWanted 22 = .ok (.invokevirtual 71, 3) := by decide +kernel
theorem dX6_useWanted_25 : decode cX6_useWanted 25 = .ok (.invokestatic 127, 3) := by decide +kernel
theorem dX6_useWanted_28 : decode cX6_useWanted 28 = .ok (.istore_n 3, 1) := by decide +kernel
theorem dX6_useWanted_29 : decode cX6_useWanted 29 = .ok (.aload_n 0, 1) := by decide +kernel
theorem dX6_useWanted_30 : decode cX6_useWanted 30 = .ok (.iload_n 1, 1) := by decide +kernel
theorem dX6_useWanted_31 : decode cX6_useWanted 31 = .ok (.iload_n 2, 1) := by decide +kernel
theorem dX6_useWanted_32 : decode cX6_useWanted 32 = .ok (.iload_n 3, 1) := by decide +kernel
theorem dX6_useWanted_33 : decode cX6_useWanted 33 = .ok (.ineg, 1) := by decide +kernel
theorem dX6_useWanted_34 : decode cX6_useWanted 34 = .ok (.invokevirtual 75, 3) := by decide +kernel
theorem dX6_useWanted_37 : decode cX6_useWanted 37 = .ok (.iload_n 3, 1) := by decide +kernel
theorem dX6_useWanted_38 : decode cX6_useWanted 38 = .ok (.ireturn, 1) := by decide +kernel
theorem dX6_richest_0 : decode cX6_richest 0 = .ok (.iconst 0, 1) := by decide +kernel
theorem dX6_richest_1 : decode cX6_richest 1 = .ok (.istore_n 1, 1) := by decide +kernel
theorem dX6_richest_2 : decode cX6_richest 2 = .ok (.iconst 1, 1) := by decide +kernel
theorem dX6_richest_3 : decode cX6_richest 3 = .ok (.istore_n 2, 1) := by decide +kernel
theorem dX6_richest_4 : decode cX6_richest 4 = .ok (.iload_n 2, 1) := by decide +kernel
theorem dX6_richest_5 : decode cX6_richest 5 = .ok (.aload_n 0, 1) := by decide +kernel
theorem dX6_richest_6 : decode cX6_richest 6 = .ok (.getfield 37, 3) := by decide +kernel
theorem dX6_richest_9 : decode cX6_richest 9 = .ok (.if_icmp .ge 26, 3) := by decide +kernel
theorem dX6_richest_12 : decode cX6_richest 12 = .ok (.aload_n 0, 1) := by decide +kernel
theorem dX6_richest_13 : decode cX6_richest 13 = .ok (.getfield 17, 3) := by decide +kernel
theorem dX6_richest_16 : decode cX6_richest 16 = .ok (.iload_n 2, 1) := by decide +kernel
theorem dX6_richest_17 : decode cX6_richest 17 = .ok (.iaload, 1) := by decide +kernel
theorem dX6_richest_18 : decode cX6_richest 18 = .ok (.aload_n 0, 1) := by decide +kernel
theorem dX6_richest_19 : decode cX6_richest 19 = .ok (.getfield 17, 3) := by decide +kernel
theorem dX6_richest_22 : decode cX6_richest 22 = .ok (.iload_n 1, 1) := by decide +kernel
theorem dX6_richest_23 : decode cX6_richest 23 = .ok (.iaload, 1) := by decide +kernel
theorem dX6_richest_24 : decode cX6_richest 24 = .ok (.if_icmp .le 5, 3) := by decide +kernel
theorem dX6_richest_27 : decode cX6_richest 27 = .ok (.iload_n 2, 1) := by decide +kernel
theorem dX6_richest_28 : decode cX6_richest 28 = .ok (.istore_n 1, 1) := by decide +kernel
theorem dX6_richest_29 : decode cX6_richest 29 = .ok (.iinc 2 1, 3) := by decide +kernel
theorem dX6_richest_32 : decode cX6_richest 32 = .ok (.goto (-28), 3) := by decide +kernel
theorem dX6_richest_35 : decode cX6_richest 35 = .ok (.iload_n 1, 1) := by decide +kernel
theorem dX6_richest_36 : decode cX6_richest 36 = .ok (.ireturn, 1) := by decide +kernel
theorem dX7_init_0 : decode cX7_init 0 = .ok (.aload_n 0, 1) := by decide +kernel
theorem dX7_init_1 : decode cX7_init 1 = .ok (.invokespecial 3, 3) := by decide +kernel
theorem dX7_init_4 : decode cX7_init 4 = .ok (.aload_n 0, 1) := by decide +kernel
theorem dX7_init_5 : decode cX7_init 5 = .ok (.bipush 96, 2) := by decide +kernel
theorem dX7_init_7 : decode cX7_init 7 = .ok (.newarray .int, 2) := by decide +kernel
theorem dX7_init_9 : decode cX7_init 9 = .ok (.putfield 9, 3) := by decide +kernel
theorem dX7_init_12 : decode cX7_init 12 = .ok (.return_, 1) := by decide +kernel
theorem dX7_isFull_0 : decode cX7_isFull 0 = .ok (.aload_n 0, 1) := by decide +kernel
theorem dX7_isFull_1 : decode cX7_isFull 1 = .ok (.getfield 15, 3) := by decide +kernel
theorem dX7_isFull_4 : decode cX7_isFull 4 = .ok (.bipush 96, 2) := by decide +kernel
theorem dX7_isFull_6 : decode cX7_isFull 6 = .ok (.if_icmp .lt 7, 3) := by decide +kernel
theorem dX7_isFull_9 : decode cX7_isFull 9 = .ok (.iconst 1, 1) := by decide +kernel
theorem dX7_isFull_10 : decode cX7_isFull 10 = .ok (.goto 4, 3) := by decide +kernel
theorem dX7_isFull_13 : decode cX7_isFull 13 = .ok (.iconst 0, 1) := by decide +kernel
theorem dX7_isFull_14 : decode cX7_isFull 14 = .ok (.ireturn, 1) := by decide +kernel
theorem dX7_add_0 : decode cX7_add 0 = .ok (.aload_n 0, 1) := by decide +kernel
theorem dX7_add_1 : decode cX7_add 1 = .ok (.invokevirtual 19, 3) := by decide +kernel
theorem dX7_add_4 : decode cX7_add 4 = .ok (.ifCond .ne 23, 3) := by decide +kernel
theorem dX7_add_7 : decode cX7_add 7 = .ok (.aload_n 0, 1) := by decide +kernel
theorem dX7_add_8 : decode cX7_add 8 = .ok (.getfield 9, 3) := by decide +kernel
theorem dX7_add_11 : decode cX7_add 11 = .ok (.aload_n 0, 1) := by decide +kernel
theorem dX7_add_12 : decode cX7_add 12 = .ok (.getfield 15, 3) := by decide +kernel
theorem dX7_add_15 : decode cX7_add 15 = .ok (.iload_n 1, 1) := by decide +kernel
theorem dX7_add_16 : decode cX7_add 16 = .ok (.iastore, 1) := by decide +kernel
theorem dX7_add_17 : decode cX7_add 17 = .ok (.aload_n 0, 1) := by decide +kernel
theorem dX7_add_18 : decode cX7_add 18 = .ok (.dup, 1) := by decide +kernel
theorem dX7_add_19 : decode cX7_add 19 = .ok (.getfield 15, 3) := by decide +kernel
theorem dX7_add_22 : decode cX7_add 22 = .ok (.iconst 1, 1) := by decide +kernel
theorem dX7_add_23 : decode cX7_add 23 = .ok (.iadd, 1) := by decide +kernel
theorem dX7_add_24 : decode cX7_add 24 = .ok (.putfield 15, 3) := by decide +kernel
theorem dX7_add_27 : decode cX7_add 27 = .ok (.return_, 1) := by decide +kernel
theorem dX7_firstWrongPlace_0 : decode cX7_firstWrongPlace 0 = .ok (.aload_n 0, 1) := by decide +kernel
theorem dX7_firstWrongPlace_1 : decode cX7_firstWrongPlace 1 = .ok (.getfield 15, 3) := by decide +kernel
theorem dX7_firstWrongPlace_4 : decode cX7_firstWrongPlace 4 = .ok (.ifCond .ne 5, 3) := by decide +kernel
theorem dX7_firstWrongPlace_7 : decode cX7_firstWrongPlace 7 = .ok (.iconst 0, 1) := by decide +kernel
theorem dX7_firstWrongPlace_8 : decode cX7_firstWrongPlace 8 = .ok (.ireturn, 1) := by decide +kernel
theorem dX7_firstWrongPlace_9 : decode cX7_firstWrongPlace 9 = .ok (.iconst 0, 1) := by decide +kernel
theorem dX7_firstWrongPlace_10 : decode cX7_firstWrongPlace 10 = .ok (.istore_n 1, 1) := by decide +kernel
theorem dX7_firstWrongPlace_11 : decode cX7_firstWrongPlace 11 = .ok (.iload_n 1, 1) := by decide +kernel
theorem dX7_firstWrongPlace_12 : decode cX7_firstWrongPlace 12 = .ok (.aload_n 0, 1) := by decide +kernel
theorem dX7_firstWrongPlace_13 : decode cX7_firstWrongPlace 13 = .ok (.getfield 15, 3) := by decide +kernel
theorem dX7_firstWrongPlace_16 : decode cX7_firstWrongPlace 16 = .ok (.if_icmp .ge 85, 3) := by decide +kernel
theorem dX7_firstWrongPlace_19 : decode cX7_firstWrongPlace 19 = .ok (.aload_n 0, 1) := by decide +kernel
theorem dX7_firstWrongPlace_20 : decode cX7_firstWrongPlace 20 = .ok (.getfield 9, 3) := by decide +kernel
theorem dX7_firstWrongPlace_23 : decode cX7_firstWrongPlace 23 = .ok (.iload_n 1, 1) := by decide +kernel
theorem dX7_firstWrongPlace_24 : decode cX7_firstWrongPlace 24 = .ok (.iaload, 1) := by decide +kernel
theorem dX7_firstWrongPlace_25 : decode cX7_firstWrongPlace 25 = .ok (.invokestatic 23, 3) := by decide +kernel
theorem dX7_firstWrongPlace_28 : decode cX7_firstWrongPlace 28 = .ok (.istore_n 2, 1) := by decide +kernel
theorem dX7_firstWrongPlace_29 : decode cX7_firstWrongPlace 29 = .ok (.iload_n 2, 1) := by decide +kernel
theorem dX7_firstWrongPlace_30 : decode cX7_firstWrongPlace 30 = .ok (.ifCond .ne 5, 3) := by decide +kernel
theorem dX7_firstWrongPlace_33 : decode cX7_firstWrongPlace 33 = .ok (.iload_n 1, 1) := by decide +kernel
theorem dX7_firstWrongPlace_34 : decode cX7_firstWrongPlace 34 = .ok (.ireturn, 1) := by decide +kernel
theorem dX7_firstWrongPlace_35 : decode cX7_firstWrongPlace 35 = .ok (.aload_n 0, 1) := by decide +kernel
theorem dX7_firstWrongPlace_36 : decode cX7_firstWrongPlace 36 = .ok (.iload_n 1, 1) := by decide +kernel
theorem dX7_firstWrongPlace_37 : decode cX7_firstWrongPlace 37 = .ok (.iconst 1, 1) := by decide +kernel
theorem dX7_firstWrongPlace_38 : decode cX7_firstWrongPlace 38 = .ok (.iadd, 1) := by decide +kernel
theorem dX7_firstWrongPlace_39 : decode cX7_firstWrongPlace 39 = .ok (.iload_n 2, 1) := by decide +kernel
theorem dX7_firstWrongPlace_40 : decode cX7_firstWrongPlace 40 = .ok (.invokevirtual 27, 3) := by decide +kernel
theorem dX7_firstWrongPlace_43 : decode cX7_firstWrongPlace 43 = .ok (.istore_n 3, 1) := by decide +kernel
theorem dX7_firstWrongPlace_44 : decode cX7_firstWrongPlace 44 = .ok (.iload_n 3, 1) := by decide +kernel
theorem dX7_firstWrongPlace_45 : decode cX7_firstWrongPlace 45 = .ok (.iload_n 1, 1) := by decide +kernel
theorem dX7_firstWrongPlace_46 : decode cX7_firstWrongPlace 46 = .ok (.isub, 1) := by decide +kernel
theorem dX7_firstWrongPlace_47 : decode cX7_firstWrongPlace 47 = .ok (.iconst 1, 1) := by decide +kernel
theorem dX7_firstWrongPlace_48 : decode cX7_firstWrongPlace 48 = .ok (.isub, 1) := by decide +kernel
theorem dX7_firstWrongPlace_49 : decode cX7_firstWrongPlace 49 = .ok (.aload_n 0, 1) := by decide +kernel
theorem dX7_firstWrongPlace_50 : decode cX7_firstWrongPlace 50 = .ok (.getfield 9, 3) := by decide +kernel
theorem dX7_firstWrongPlace_53 : decode cX7_firstWrongPlace 53 = .ok (.iload_n 1, 1) := by decide +kernel
theorem dX7_firstWrongPlace_54 : decode cX7_firstWrongPlace 54 = .ok (.iaload, 1) := by decide +kernel
theorem dX7_firstWrongPlace_55 : decode cX7_firstWrongPlace 55 = .ok (.invokestatic 31, 3) := by decide +kernel
theorem dX7_firstWrongPlace_58 : decode cX7_firstWrongPlace 58 = .ok (.if_icmp .lt 7, 3) := by decide +kernel
theorem dX7_firstWrongPlace_61 : decode cX7_firstWrongPlace 61 = .ok (.iconst 1, 1) := by decide +kernel
theorem dX7_firstWrongPlace_62 : decode cX7_firstWrongPlace 62 = .ok (.goto 4, 3) := by decide +kernel
theorem dX7_firstWrongPlace_65 : decode cX7_firstWrongPlace 65 = .ok (.iconst 0, 1) := by decide +kernel
theorem dX7_firstWrongPlace_66 : decode cX7_firstWrongPlace 66 = .ok (.istore 4, 2) := by decide +kernel
theorem dX7_firstWrongPlace_68 : decode cX7_firstWrongPlace 68 = .ok (.iload 4, 2) := by decide +kernel
theorem dX7_firstWrongPlace_70 : decode cX7_firstWrongPlace 70 = .ok (.ifCond .eq 22, 3) := by decide +kernel
theorem dX7_firstWrongPlace_73 : decode cX7_firstWrongPlace 73 = .ok (.iload_n 3, 1) := by decide +kernel
theorem dX7_firstWrongPlace_74 : decode cX7_firstWrongPlace 74 = .ok (.aload_n 0, 1) := by decide +kernel
theorem dX7_firstWrongPlace_75 : decode cX7_firstWrongPlace 75 = .ok (.getfield 15, 3) := by decide +kernel
theorem dX7_firstWrongPlace_78 : decode cX7_firstWrongPlace 78 = .ok (.if_icmp .ge 14, 3) := by decide +kernel
theorem dX7_firstWrongPlace_81 : decode cX7_firstWrongPlace 81 = .ok (.aload_n 0, 1) := by decide +kernel
theorem dX7_firstWrongPlace_82 : decode cX7_firstWrongPlace 82 = .ok (.getfield 9, 3) := by decide +kernel
theorem dX7_firstWrongPlace_85 : decode cX7_firstWrongPlace 85 = .ok (.iload_n 3, 1) := by decide +kernel
theorem dX7_firstWrongPlace_86 : decode cX7_firstWrongPlace 86 = .ok (.iaload, 1) := by decide +kernel
theorem dX7_firstWrongPlace_87 : decode cX7_firstWrongPlace 87 = .ok (.bipush 59, 2) := by decide +kernel
theorem dX7_firstWrongPlace_89 : decode cX7_firstWrongPlace 89 = .ok (.if_icmp .eq 5, 3) := by decide +kernel
theorem dX7_firstWrongPlace_92 : decode cX7_firstWrongPlace 92 = .ok (.iload_n 3, 1) := by decide +kernel
theorem dX7_firstWrongPlace_93 : decode cX7_firstWrongPlace 93 = .ok (.ireturn, 1) := by decide +kernel
theorem dX7_firstWrongPlace_94 : decode cX7_firstWrongPlace 94 = .ok (.iload_n 3, 1) := by decide +kernel
theorem dX7_firstWrongPlace_95 : decode cX7_firstWrongPlace 95 = .ok (.iconst 1, 1) := by decide +kernel
theorem dX7_firstWrongPlace_96 : decode cX7_firstWrongPlace 96 = .ok (.iadd, 1) := by decide +kernel
theorem dX7_firstWrongPlace_97 : decode cX7_firstWrongPlace 97 = .ok (.istore_n 1, 1) := by decide +kernel
theorem dX7_firstWrongPlace_98 : decode cX7_firstWrongPlace 98 = .ok (.goto (-87), 3) := by decide +kernel
theorem dX7_firstWrongPlace_101 : decode cX7_firstWrongPlace 101 = .ok (.iconst (-1), 1) := by decide +kernel
theorem dX7_firstWrongPlace_102 : decode cX7_firstWrongPlace 102 = .ok (.ireturn, 1) := by decide +kernel
theorem dX7_endOfDigits_0 : decode cX7_endOfDigits 0 = .ok (.iload_n 1, 1) := by decide +kernel
theorem dX7_endOfDigits_1 : decode cX7_endOfDigits 1 = .ok (.istore_n 3, 1) := by decide +kernel
theorem dX7_endOfDigits_2 : decode cX7_endOfDigits 2 = .ok (.iload_n 3, 1) := by decide +kernel
theorem dX7_endOfDigits_3 : decode cX7_endOfDigits 3 = .ok (.aload_n 0, 1) := by decide +kernel
theorem dX7_endOfDigits_4 : decode cX7_endOfDigits 4 = .ok (.getfield 15, 3) := by decide +kernel
theorem dX7_endOfDigits_7 : decode cX7_endOfDigits 7 = .ok (.if_icmp .ge 38, 3) := by decide +kernel
theorem dX7_endOfDigits_10 : decode cX7_endOfDigits 10 = .ok (.iload_n 3, 1) := by decide +kernel
theorem dX7_endOfDigits_11 : decode cX7_endOfDigits 11 = .ok (.iload_n 1, 1) := by decide +kernel
theorem dX7_endOfDigits_12 : decode cX7_endOfDigits 12 = .ok (.isub, 1) := by decide +kernel
theorem dX7_endOfDigits_13 : decode cX7_endOfDigits 13 = .ok (.iload_n 2, 1) := by decide +kernel
theorem dX7_endOfDigits_14 : decode cX7_endOfDigits 14 = .ok (.if_icmp .ge 31, 3) := by decide +kernel
theorem dX7_endOfDigits_17 : decode cX7_endOfDigits 17 = .ok (.aload_n 0, 1) := by decide +kernel
theorem dX7_endOfDigits_18 : decode cX7_endOfDigits 18 = .ok (.getfield 9, 3) := by decide +kernel
theorem dX7_endOfDigits_21 : decode cX7_endOfDigits 21 = .ok (.iload_n 3, 1) := by decide +kernel
theorem dX7_endOfDigits_22 : decode cX7_endOfDigits 22 = .ok (.iaload, 1) := by decide +kernel
theorem dX7_endOfDigits_23 : decode cX7_endOfDigits 23 = .ok (.bipush 48, 2) := by decide +kernel
theorem dX7_endOfDigits_25 : decode cX7_endOfDigits 25 = .ok (.if_icmp .lt 20, 3) := by decide +kernel
theorem dX7_endOfDigits_28 : decode cX7_endOfDigits 28 = .ok (.aload_n 0, 1) := by decide +kernel
theorem dX7_endOfDigits_29 : decode cX7_endOfDigits 29 = .ok (.getfield 9, 3) := by decide +kernel
theorem dX7_endOfDigits_32 : decode cX7_endOfDigits 32 = .ok (.iload_n 3, 1) := by decide +kernel
theorem dX7_endOfDigits_33 : decode cX7_endOfDigits 33 = .ok (.iaload, 1) := by decide +kernel
theorem dX7_endOfDigits_34 : decode cX7_endOfDigits 34 = .ok (.bipush 57, 2) := by decide +kernel
theorem dX7_endOfDigits_36 : decode cX7_endOfDigits 36 = .ok (.if_icmp .gt 9, 3) := by decide +kernel
theorem dX7_endOfDigits_39 : decode cX7_endOfDigits 39 = .ok (.iinc 3 1, 3) := by decide +kernel
theorem dX7_endOfDigits_42 : decode cX7_endOfDigits 42 = .ok (.goto (-40), 3) := by decide +kernel
theorem dX7_endOfDigits_45 : decode cX7_endOfDigits 45 = .ok (.iload_n 3, 1) := by decide +kernel
theorem dX7_endOfDigits_46 : decode cX7_endOfDigits 46 = .ok (.ireturn, 1) := by decide +kernel
theorem dX7_leastDigits_0 : decode cX7_leastDigits 0 = .ok (.iload_n 0, 1) := by decide +kernel
theorem dX7_leastDigits_1 : decode cX7_leastDigits 1 = .ok (.lookupswitch 52 #[(100, 50), (104, 43), (108, 48), (112, 46)], 43) := by decide +kernel
theorem dX7_leastDigits_44 : decode cX7_leastDigits 44 = .ok (.bipush 9, 2) := by decide +kernel
theorem dX7_leastDigits_46 : decode cX7_leastDigits 46 = .ok (.ireturn, 1) := by decide +kernel
theorem dX7_leastDigits_47 : decode cX7_leastDigits 47 = .ok (.iconst 2, 1) := by decide +kernel
theorem dX7_leastDigits_48 : decode cX7_leastDigits 48 = .ok (.ireturn, 1) := by decide +kernel
theorem dX7_leastDigits_49 : decode cX7_leastDigits 49 = .ok (.iconst 1, 1) := by decide +kernel
theorem dX7_leastDigits_50 : decode cX7_leastDigits 50 = .ok (.ireturn, 1) := by decide +kernel
theorem dX7_leastDigits_51 : decode cX7_leastDigits 51 = .ok (.iconst 3, 1) := by decide +kernel
theorem dX7_leastDigits_52 : decode cX7_leastDigits 52 = .ok (.ireturn, 1) := by decide +kernel
theorem dX7_leastDigits_53 : decode cX7_leastDigits 53 = .ok (.iconst 0, 1) := by decide +kernel
theorem dX7_leastDigits_54 : decode cX7_leastDigits 54 = .ok (.ireturn, 1) := by decide +kernel
theorem dX7_mostDigits_0 : decode cX7_mostDigits 0 = .ok (.iload_n 0, 1) := by decide +kernel
theorem dX7_mostDigits_1 : decode cX7_mostDigits 1 = .ok (.lookupswitch 52 #[(100, 50), (104, 43), (108, 48), (112, 46)], 43) := by decide +kernel
theorem dX7_mostDigits_44 : decode cX7_mostDigits 44 = .ok (.bipush 11, 2) := by decide +kernel
theorem dX7_mostDigits_46 : decode cX7_mostDigits 46 = .ok (.ireturn, 1) := by decide +kernel
theorem dX7_mostDigits_47 : decode cX7_mostDigits 47 = .ok (.iconst 2, 1) := by decide +kernel
theorem dX7_mostDigits_48 : decode cX7_mostDigits 48 = .ok (.ireturn, 1) := by decide +kernel
theorem dX7_mostDigits_49 : decode cX7_mostDigits 49 = .ok (.iconst 1, 1) := by decide +kernel
theorem dX7_mostDigits_50 : decode cX7_mostDigits 50 = .ok (.ireturn, 1) := by decide +kernel
theorem dX7_mostDigits_51 : decode cX7_mostDigits 51 = .ok (.iconst 4, 1) := by decide +kernel
theorem dX7_mostDigits_52 : decode cX7_mostDigits 52 = .ok (.ireturn, 1) := by decide +kernel
theorem dX7_mostDigits_53 : decode cX7_mostDigits 53 = .ok (.iconst 0, 1) := by decide +kernel
theorem dX7_mostDigits_54 : decode cX7_mostDigits 54 = .ok (.ireturn, 1) := by decide +kernel
theorem dX7_endOfStatement_0 : decode cX7_endOfStatement 0 = .ok (.iload_n 1, 1) := by decide +kernel
theorem dX7_endOfStatement_1 : decode cX7_endOfStatement 1 = .ok (.istore_n 2, 1) := by decide +kernel
theorem dX7_endOfStatement_2 : decode cX7_endOfStatement 2 = .ok (.iload_n 2, 1) := by decide +kernel
theorem dX7_endOfStatement_3 : decode cX7_endOfStatement 3 = .ok (.aload_n 0, 1) := by decide +kernel
theorem dX7_endOfStatement_4 : decode cX7_endOfStatement 4 = .ok (.getfield 15, 3) := by decide +kernel
theorem dX7_endOfStatement_7 : decode cX7_endOfStatement 7 = .ok (.if_icmp .ge 20, 3) := by decide +kernel
theorem dX7_endOfStatement_10 : decode cX7_endOfStatement 10 = .ok (.aload_n 0, 1) := by decide +kernel
theorem dX7_endOfStatement_11 : decode cX7_endOfStatement 11 = .ok (.getfield 9, 3) := by decide +kernel
theorem dX7_endOfStatement_14 : decode cX7_endOfStatement 14 = .ok (.iload_n 2, 1) := by decide +kernel
theorem dX7_endOfStatement_15 : decode cX7_endOfStatement 15 = .ok (.iaload, 1) := by decide +kernel
theorem dX7_endOfStatement_16 : decode cX7_endOfStatement 16 = .ok (.bipush 59, 2) := by decide +kernel
theorem dX7_endOfStatement_18 : decode cX7_endOfStatement 18 = .ok (.if_icmp .eq 9, 3) := by decide +kernel
theorem dX7_endOfStatement_21 : decode cX7_endOfStatement 21 = .ok (.iinc 2 1, 3) := by decide +kernel
theorem dX7_endOfStatement_24 : decode cX7_endOfStatement 24 = .ok (.goto (-22), 3) := by decide +kernel
theorem dX7_endOfStatement_27 : decode cX7_endOfStatement 27 = .ok (.iload_n 2, 1) := by decide +kernel
theorem dX7_endOfStatement_28 : decode cX7_endOfStatement 28 = .ok (.ireturn, 1) := by decide +kernel
theorem dX7_number_0 : decode cX7_number 0 = .ok (.iconst 0, 1) := by decide +kernel
theorem dX7_number_1 : decode cX7_number 1 = .ok (.istore_n 3, 1) := by decide +kernel
theorem dX7_number_2 : decode cX7_number 2 = .ok (.iload_n 1, 1) := by decide +kernel
theorem dX7_number_3 : decode cX7_number 3 = .ok (.istore 4, 2) := by decide +kernel
theorem dX7_number_5 : decode cX7_number 5 = .ok (.iload 4, 2) := by decide +kernel
theorem dX7_number_7 : decode cX7_number 7 = .ok (.iload_n 2, 1) := by decide +kernel
theorem dX7_number_8 : decode cX7_number 8 = .ok (.if_icmp .ge 34, 3) := by decide +kernel
theorem dX7_number_11 : decode cX7_number 11 = .ok (.iload 4, 2) := by decide +kernel
theorem dX7_number_13 : decode cX7_number 13 = .ok (.aload_n 0, 1) := by decide +kernel
theorem dX7_number_14 : decode cX7_number 14 = .ok (.getfield 15, 3) := by decide +kernel
theorem dX7_number_17 : decode cX7_number 17 = .ok (.if_icmp .ge 25, 3) := by decide +kernel
theorem dX7_number_20 : decode cX7_number 20 = .ok (.iload_n 3, 1) := by decide +kernel
theorem dX7_number_21 : decode cX7_number 21 = .ok (.bipush 10, 2) := by decide +kernel
theorem dX7_number_23 : decode cX7_number 23 = .ok (.imul, 1) := by decide +kernel
theorem dX7_number_24 : decode cX7_number 24 = .ok (.aload_n 0, 1) := by decide +kernel
theorem dX7_number_25 : decode cX7_number 25 = .ok (.getfield 9, 3) := by decide +kernel
theorem dX7_number_28 : decode cX7_number 28 = .ok (.iload 4, 2) := by decide +kernel
theorem dX7_number_30 : decode cX7_number 30 = .ok (.iaload, 1) := by decide +kernel
theorem dX7_number_31 : decode cX7_number 31 = .ok (.iadd, 1) := by decide +kernel
theorem dX7_number_32 : decode cX7_number 32 = .ok (.bipush 48, 2) := by decide +kernel
theorem dX7_number_34 : decode cX7_number 34 = .ok (.isub, 1) := by decide +kernel
theorem dX7_number_35 : decode cX7_number 35 = .ok (.istore_n 3, 1) := by decide +kernel
theorem dX7_number_36 : decode cX7_number 36 = .ok (.iinc 4 1, 3) := by decide +kernel
theorem dX7_number_39 : decode cX7_number 39 = .ok (.goto (-34), 3) := by decide +kernel
theorem dX7_number_42 : decode cX7_number 42 = .ok (.iload_n 3, 1) := by decide +kernel
theorem dX7_number_43 : decode cX7_number 43 = .ok (.ireturn, 1) := by decide +kernel
theorem dX7_digit_0 : decode cX7_digit 0 = .ok (.aload_n 0, 1) := by decide +kernel
theorem dX7_digit_1 : decode cX7_digit 1 = .ok (.iload_n 1, 1) := by decide +kernel
theorem dX7_digit_2 : decode cX7_digit 2 = .ok (.iload_n 1, 1) := by decide +kernel
theorem dX7_digit_3 : decode cX7_digit 3 = .ok (.iconst 1, 1) := by decide +kernel
theorem dX7_digit_4 : decode cX7_digit 4 = .ok (.iadd, 1) := by decide +kernel
theorem dX7_digit_5 : decode cX7_digit 5 = .ok (.invokevirtual 34, 3) := by decide +kernel
theorem dX7_digit_8 : decode cX7_digit 8 = .ok (.ireturn, 1) := by decide +kernel
theorem dX7_tellTo_0 : decode cX7_tellTo 0 = .ok (.aload_n 0, 1) := by decide +kernel
theorem dX7_tellTo_1 : decode cX7_tellTo 1 = .ok (.invokevirtual 37, 3) := by decide +kernel
theorem dX7_tellTo_4 : decode cX7_tellTo 4 = .ok (.istore_n 2, 1) := by decide +kernel
theorem dX7_tellTo_5 : decode cX7_tellTo 5 = .ok (.iload_n 2, 1) := by decide +kernel
theorem dX7_tellTo_6 : decode cX7_tellTo 6 = .ok (.ifCond .lt 9, 3) := by decide +kernel
theorem dX7_tellTo_9 : decode cX7_tellTo 9 = .ok (.sipush (-1000), 3) := by decide +kernel
theorem dX7_tellTo_12 : decode cX7_tellTo 12 = .ok (.iload_n 2, 1) := by decide +kernel
theorem dX7_tellTo_13 : decode cX7_tellTo 13 = .ok (.isub, 1) := by decide +kernel
theorem dX7_tellTo_14 : decode cX7_tellTo 14 = .ok (.ireturn, 1) := by decide +kernel
theorem dX7_tellTo_15 : decode cX7_tellTo 15 = .ok (.iconst 0, 1) := by decide +kernel
theorem dX7_tellTo_16 : decode cX7_tellTo 16 = .ok (.istore_n 3, 1) := by decide +kernel
theorem dX7_tellTo_17 : decode cX7_tellTo 17 = .ok (.iconst 0, 1) := by decide +kernel
theorem dX7_tellTo_18 : decode cX7_tellTo 18 = .ok (.istore 4, 2) := by decide +kernel
theorem dX7_tellTo_20 : decode cX7_tellTo 20 = .ok (.iload 4, 2) := by decide +kernel
theorem dX7_tellTo_22 : decode cX7_tellTo 22 = .ok (.aload_n 0, 1) := by decide +kernel
theorem dX7_tellTo_23 : decode cX7_tellTo 23 = .ok (.getfield 15, 3) := by decide +kernel
theorem dX7_tellTo_26 : decode cX7_tellTo 26 = .ok (.if_icmp .ge 127, 3) := by decide +kernel
theorem dX7_tellTo_29 : decode cX7_tellTo 29 = .ok (.aload_n 0, 1) := by decide +kernel
theorem dX7_tellTo_30 : decode cX7_tellTo 30 = .ok (.iload 4, 2) := by decide +kernel
theorem dX7_tellTo_32 : decode cX7_tellTo 32 = .ok (.invokevirtual 41, 3) := by decide +kernel
theorem dX7_tellTo_35 : decode cX7_tellTo 35 = .ok (.istore 5, 2) := by decide +kernel
theorem dX7_tellTo_37 : decode cX7_tellTo 37 = .ok (.aload_n 0, 1) := by decide +kernel
theorem dX7_tellTo_38 : decode cX7_tellTo 38 = .ok (.getfield 9, 3) := by decide +kernel
theorem dX7_tellTo_41 : decode cX7_tellTo 41 = .ok (.iload 4, 2) := by decide +kernel
theorem dX7_tellTo_43 : decode cX7_tellTo 43 = .ok (.iaload, 1) := by decide +kernel
theorem dX7_tellTo_44 : decode cX7_tellTo 44 = .ok (.lookupswitch 74 #[(104, 36), (108, 62), (112, 50)], 36) := by decide +kernel
theorem dX7_tellTo_80 : decode cX7_tellTo 80 = .ok (.aload_n 0, 1) := by decide +kernel
theorem dX7_tellTo_81 : decode cX7_tellTo 81 = .ok (.aload_n 1, 1) := by decide +kernel
theorem dX7_tellTo_82 : decode cX7_tellTo 82 = .ok (.iload 4, 2) := by decide +kernel
theorem dX7_tellTo_84 : decode cX7_tellTo 84 = .ok (.iload 5, 2) := by decide +kernel
theorem dX7_tellTo_86 : decode cX7_tellTo 86 = .ok (.invokevirtual 44, 3) := by decide +kernel
theorem dX7_tellTo_89 : decode cX7_tellTo 89 = .ok (.istore 6, 2) := by decide +kernel
theorem dX7_tellTo_91 : decode cX7_tellTo 91 = .ok (.goto 38, 3) := by decide +kernel
theorem dX7_tellTo_94 : decode cX7_tellTo 94 = .ok (.aload_n 0, 1) := by decide +kernel
theorem dX7_tellTo_95 : decode cX7_tellTo 95 = .ok (.aload_n 1, 1) := by decide +kernel
theorem dX7_tellTo_96 : decode cX7_tellTo 96 = .ok (.iload 4, 2) := by decide +kernel
theorem dX7_tellTo_98 : decode cX7_tellTo 98 = .ok (.invokevirtual 48, 3) := by decide +kernel
theorem dX7_tellTo_101 : decode cX7_tellTo 101 = .ok (.istore 6, 2) := by decide +kernel
theorem dX7_tellTo_103 : decode cX7_tellTo 103 = .ok (.goto 26, 3) := by decide +kernel
theorem dX7_tellTo_106 : decode cX7_tellTo 106 = .ok (.aload_n 0, 1) := by decide +kernel
theorem dX7_tellTo_107 : decode cX7_tellTo 107 = .ok (.aload_n 1, 1) := by decide +kernel
theorem dX7_tellTo_108 : decode cX7_tellTo 108 = .ok (.iload 4, 2) := by decide +kernel
theorem dX7_tellTo_110 : decode cX7_tellTo 110 = .ok (.invokevirtual 52, 3) := by decide +kernel
theorem dX7_tellTo_113 : decode cX7_tellTo 113 = .ok (.istore 6, 2) := by decide +kernel
theorem dX7_tellTo_115 : decode cX7_tellTo 115 = .ok (.goto 14, 3) := by decide +kernel
theorem dX7_tellTo_118 : decode cX7_tellTo 118 = .ok (.aload_n 0, 1) := by decide +kernel
theorem dX7_tellTo_119 : decode cX7_tellTo 119 = .ok (.aload_n 1, 1) := by decide +kernel
theorem dX7_tellTo_120 : decode cX7_tellTo 120 = .ok (.iload 4, 2) := by decide +kernel
theorem dX7_tellTo_122 : decode cX7_tellTo 122 = .ok (.iload 5, 2) := by decide +kernel
theorem dX7_tellTo_124 : decode cX7_tellTo 124 = .ok (.invokevirtual 55, 3) := by decide +kernel
theorem dX7_tellTo_127 : decode cX7_tellTo 127 = .ok (.istore 6, 2) := by decide +kernel
theorem dX7_tellTo_129 : decode cX7_tellTo 129 = .ok (.iload 6, 2) := by decide +kernel
theorem dX7_tellTo_131 : decode cX7_tellTo 131 = .ok (.ifCond .ne 10, 3) := by decide +kernel
theorem dX7_tellTo_134 : decode cX7_tellTo 134 = .ok (.sipush (-2000), 3) := by decide +kernel
theorem dX7_tellTo_137 : decode cX7_tellTo 137 = .ok (.iload 4, 2) := by decide +kernel
theorem dX7_tellTo_139 : decode cX7_tellTo 139 = .ok (.isub, 1) := by decide +kernel
theorem dX7_tellTo_140 : decode cX7_tellTo 140 = .ok (.ireturn, 1) := by decide +kernel
theorem dX7_tellTo_141 : decode cX7_tellTo 141 = .ok (.iinc 3 1, 3) := by decide +kernel
theorem dX7_tellTo_144 : decode cX7_tellTo 144 = .ok (.iload 5, 2) := by decide +kernel
theorem dX7_tellTo_146 : decode cX7_tellTo 146 = .ok (.iconst 1, 1) := by decide +kernel
theorem dX7_tellTo_147 : decode cX7_tellTo 147 = .ok (.iadd, 1) := by decide +kernel
theorem dX7_tellTo_148 : decode cX7_tellTo 148 = .ok (.istore 4, 2) := by decide +kernel
theorem dX7_tellTo_150 : decode cX7_tellTo 150 = .ok (.goto (-130), 3) := by decide +kernel
theorem dX7_tellTo_153 : decode cX7_tellTo 153 = .ok (.iload_n 3, 1) := by decide +kernel
theorem dX7_tellTo_154 : decode cX7_tellTo 154 = .ok (.ireturn, 1) := by decide +kernel
theorem dX7_tellHouse_0 : decode cX7_tellHouse 0 = .ok (.aload_n 0, 1) := by decide +kernel
theorem dX7_tellHouse_1 : decode cX7_tellHouse 1 = .ok (.iload_n 2, 1) := by decide +kernel
theorem dX7_tellHouse_2 : decode cX7_tellHouse 2 = .ok (.iconst 2, 1) := by decide +kernel
theorem dX7_tellHouse_3 : decode cX7_tellHouse 3 = .ok (.iadd, 1) := by decide +kernel
theorem dX7_tellHouse_4 : decode cX7_tellHouse 4 = .ok (.invokevirtual 58, 3) := by decide +kernel
theorem dX7_tellHouse_7 : decode cX7_tellHouse 7 = .ok (.istore 4, 2) := by decide +kernel
theorem dX7_tellHouse_9 : decode cX7_tellHouse 9 = .ok (.aload_n 0, 1) := by decide +kernel
theorem dX7_tellHouse_10 : decode cX7_tellHouse 10 = .ok (.iload_n 2, 1) := by decide +kernel
theorem dX7_tellHouse_11 : decode cX7_tellHouse 11 = .ok (.iconst 3, 1) := by decide +kernel
theorem dX7_tellHouse_12 : decode cX7_tellHouse 12 = .ok (.iadd, 1) := by decide +kernel
theorem dX7_tellHouse_13 : decode cX7_tellHouse 13 = .ok (.iload_n 2, 1) := by decide +kernel
theorem dX7_tellHouse_14 : decode cX7_tellHouse 14 = .ok (.iconst 5, 1) := by decide +kernel
theorem dX7_tellHouse_15 : decode cX7_tellHouse 15 = .ok (.iadd, 1) := by decide +kernel
theorem dX7_tellHouse_16 : decode cX7_tellHouse 16 = .ok (.invokevirtual 34, 3) := by decide +kernel
theorem dX7_tellHouse_19 : decode cX7_tellHouse 19 = .ok (.istore 5, 2) := by decide +kernel
theorem dX7_tellHouse_21 : decode cX7_tellHouse 21 = .ok (.aload_n 0, 1) := by decide +kernel
theorem dX7_tellHouse_22 : decode cX7_tellHouse 22 = .ok (.iload_n 2, 1) := by decide +kernel
theorem dX7_tellHouse_23 : decode cX7_tellHouse 23 = .ok (.iconst 5, 1) := by decide +kernel
theorem dX7_tellHouse_24 : decode cX7_tellHouse 24 = .ok (.iadd, 1) := by decide +kernel
theorem dX7_tellHouse_25 : decode cX7_tellHouse 25 = .ok (.invokevirtual 58, 3) := by decide +kernel
theorem dX7_tellHouse_28 : decode cX7_tellHouse 28 = .ok (.istore 6, 2) := by decide +kernel
theorem dX7_tellHouse_30 : decode cX7_tellHouse 30 = .ok (.aload_n 0, 1) := by decide +kernel
theorem dX7_tellHouse_31 : decode cX7_tellHouse 31 = .ok (.iload_n 2, 1) := by decide +kernel
theorem dX7_tellHouse_32 : decode cX7_tellHouse 32 = .ok (.bipush 6, 2) := by decide +kernel
theorem dX7_tellHouse_34 : decode cX7_tellHouse 34 = .ok (.iadd, 1) := by decide +kernel
theorem dX7_tellHouse_35 : decode cX7_tellHouse 35 = .ok (.invokevirtual 58, 3) := by decide +kernel
theorem dX7_tellHouse_38 : decode cX7_tellHouse 38 = .ok (.istore 7, 2) := by decide +kernel
theorem dX7_tellHouse_40 : decode cX7_tellHouse 40 = .ok (.aload_n 0, 1) := by decide +kernel
theorem dX7_tellHouse_41 : decode cX7_tellHouse 41 = .ok (.iload_n 2, 1) := by decide +kernel
theorem dX7_tellHouse_42 : decode cX7_tellHouse 42 = .ok (.bipush 7, 2) := by decide +kernel
theorem dX7_tellHouse_44 : decode cX7_tellHouse 44 = .ok (.iadd, 1) := by decide +kernel
theorem dX7_tellHouse_45 : decode cX7_tellHouse 45 = .ok (.invokevirtual 58, 3) := by decide +kernel
theorem dX7_tellHouse_48 : decode cX7_tellHouse 48 = .ok (.istore 8, 2) := by decide +kernel
theorem dX7_tellHouse_50 : decode cX7_tellHouse 50 = .ok (.aload_n 0, 1) := by decide +kernel
theorem dX7_tellHouse_51 : decode cX7_tellHouse 51 = .ok (.iload_n 2, 1) := by decide +kernel
theorem dX7_tellHouse_52 : decode cX7_tellHouse 52 = .ok (.bipush 8, 2) := by decide +kernel
theorem dX7_tellHouse_54 : decode cX7_tellHouse 54 = .ok (.iadd, 1) := by decide +kernel
theorem dX7_tellHouse_55 : decode cX7_tellHouse 55 = .ok (.invokevirtual 58, 3) := by decide +kernel
theorem dX7_tellHouse_58 : decode cX7_tellHouse 58 = .ok (.istore 9, 2) := by decide +kernel
theorem dX7_tellHouse_60 : decode cX7_tellHouse 60 = .ok (.iload 6, 2) := by decide +kernel
theorem dX7_tellHouse_62 : decode cX7_tellHouse 62 = .ok (.invokestatic 61, 3) := by decide +kernel
theorem dX7_tellHouse_65 : decode cX7_tellHouse 65 = .ok (.ifCond .eq 11, 3) := by decide +kernel
theorem dX7_tellHouse_68 : decode cX7_tellHouse 68 = .ok (.iload 8, 2) := by decide +kernel
theorem dX7_tellHouse_70 : decode cX7_tellHouse 70 = .ok (.invokestatic 61, 3) := by decide +kernel
theorem dX7_tellHouse_73 : decode cX7_tellHouse 73 = .ok (.ifCond .ne 5, 3) := by decide +kernel
theorem dX7_tellHouse_76 : decode cX7_tellHouse 76 = .ok (.iconst 0, 1) := by decide +kernel
theorem dX7_tellHouse_77 : decode cX7_tellHouse 77 = .ok (.ireturn, 1) := by decide +kernel
theorem dX7_tellHouse_78 : decode cX7_tellHouse 78 = .ok (.aload_n 0, 1) := by decide +kernel
theorem dX7_tellHouse_79 : decode cX7_tellHouse 79 = .ok (.iload_n 2, 1) := by decide +kernel
theorem dX7_tellHouse_80 : decode cX7_tellHouse 80 = .ok (.iconst 1, 1) := by decide +kernel
theorem dX7_tellHouse_81 : decode cX7_tellHouse 81 = .ok (.iadd, 1) := by decide +kernel
theorem dX7_tellHouse_82 : decode cX7_tellHouse 82 = .ok (.invokevirtual 58, 3) := by decide +kernel
theorem dX7_tellHouse_85 : decode cX7_tellHouse 85 = .ok (.tableswitch 183 0 5 #[39, 63, 87, 111, 135, 159], 39) := by decide +kernel
theorem dX7_tellHouse_124 : decode cX7_tellHouse 124 = .ok (.new 65, 3) := by decide +kernel
theorem dX7_tellHouse_127 : decode cX7_tellHouse 127 = .ok (.dup, 1) := by decide +kernel
theorem dX7_tellHouse_128 : decode cX7_tellHouse 128 = .ok (.iload 4, 2) := by decide +kernel
theorem dX7_tellHouse_130 : decode cX7_tellHouse 130 = .ok (.iload 5, 2) := by decide +kernel
theorem dX7_tellHouse_132 : decode cX7_tellHouse 132 = .ok (.iload 6, 2) := by decide +kernel
theorem dX7_tellHouse_134 : decode cX7_tellHouse 134 = .ok (.iload 7, 2) := by decide +kernel
theorem dX7_tellHouse_136 : decode cX7_tellHouse 136 = .ok (.iload 8, 2) := by decide +kernel
theorem dX7_tellHouse_138 : decode cX7_tellHouse 138 = .ok (.iload 9, 2) := by decide +kernel
theorem dX7_tellHouse_140 : decode cX7_tellHouse 140 = .ok (.invokespecial 67, 3) := by decide +kernel
theorem dX7_tellHouse_143 : decode cX7_tellHouse 143 = .ok (.astore 10, 2) := by decide +kernel
theorem dX7_tellHouse_145 : decode cX7_tellHouse 145 = .ok (.goto 125, 3) := by decide +kernel
theorem dX7_tellHouse_148 : decode cX7_tellHouse 148 = .ok (.new 70, 3) := by decide +kernel
theorem dX7_tellHouse_151 : decode cX7_tellHouse 151 = .ok (.dup, 1) := by decide +kernel
theorem dX7_tellHouse_152 : decode cX7_tellHouse 152 = .ok (.iload 4, 2) := by decide +kernel
theorem dX7_tellHouse_154 : decode cX7_tellHouse 154 = .ok (.iload 5, 2) := by decide +kernel
theorem dX7_tellHouse_156 : decode cX7_tellHouse 156 = .ok (.iload 6, 2) := by decide +kernel
theorem dX7_tellHouse_158 : decode cX7_tellHouse 158 = .ok (.iload 7, 2) := by decide +kernel
theorem dX7_tellHouse_160 : decode cX7_tellHouse 160 = .ok (.iload 8, 2) := by decide +kernel
theorem dX7_tellHouse_162 : decode cX7_tellHouse 162 = .ok (.iload 9, 2) := by decide +kernel
theorem dX7_tellHouse_164 : decode cX7_tellHouse 164 = .ok (.invokespecial 72, 3) := by decide +kernel
theorem dX7_tellHouse_167 : decode cX7_tellHouse 167 = .ok (.astore 10, 2) := by decide +kernel
theorem dX7_tellHouse_169 : decode cX7_tellHouse 169 = .ok (.goto 101, 3) := by decide +kernel
theorem dX7_tellHouse_172 : decode cX7_tellHouse 172 = .ok (.new 73, 3) := by decide +kernel
theorem dX7_tellHouse_175 : decode cX7_tellHouse 175 = .ok (.dup, 1) := by decide +kernel
theorem dX7_tellHouse_176 : decode cX7_tellHouse 176 = .ok (.iload 4, 2) := by decide +kernel
theorem dX7_tellHouse_178 : decode cX7_tellHouse 178 = .ok (.iload 5, 2) := by decide +kernel
theorem dX7_tellHouse_180 : decode cX7_tellHouse 180 = .ok (.iload 6, 2) := by decide +kernel
theorem dX7_tellHouse_182 : decode cX7_tellHouse 182 = .ok (.iload 7, 2) := by decide +kernel
theorem dX7_tellHouse_184 : decode cX7_tellHouse 184 = .ok (.iload 8, 2) := by decide +kernel
theorem dX7_tellHouse_186 : decode cX7_tellHouse 186 = .ok (.iload 9, 2) := by decide +kernel
theorem dX7_tellHouse_188 : decode cX7_tellHouse 188 = .ok (.invokespecial 75, 3) := by decide +kernel
theorem dX7_tellHouse_191 : decode cX7_tellHouse 191 = .ok (.astore 10, 2) := by decide +kernel
theorem dX7_tellHouse_193 : decode cX7_tellHouse 193 = .ok (.goto 77, 3) := by decide +kernel
theorem dX7_tellHouse_196 : decode cX7_tellHouse 196 = .ok (.new 76, 3) := by decide +kernel
theorem dX7_tellHouse_199 : decode cX7_tellHouse 199 = .ok (.dup, 1) := by decide +kernel
theorem dX7_tellHouse_200 : decode cX7_tellHouse 200 = .ok (.iload 4, 2) := by decide +kernel
theorem dX7_tellHouse_202 : decode cX7_tellHouse 202 = .ok (.iload 5, 2) := by decide +kernel
theorem dX7_tellHouse_204 : decode cX7_tellHouse 204 = .ok (.iload 6, 2) := by decide +kernel
theorem dX7_tellHouse_206 : decode cX7_tellHouse 206 = .ok (.iload 7, 2) := by decide +kernel
theorem dX7_tellHouse_208 : decode cX7_tellHouse 208 = .ok (.iload 8, 2) := by decide +kernel
theorem dX7_tellHouse_210 : decode cX7_tellHouse 210 = .ok (.iload 9, 2) := by decide +kernel
theorem dX7_tellHouse_212 : decode cX7_tellHouse 212 = .ok (.invokespecial 78, 3) := by decide +kernel
theorem dX7_tellHouse_215 : decode cX7_tellHouse 215 = .ok (.astore 10, 2) := by decide +kernel
theorem dX7_tellHouse_217 : decode cX7_tellHouse 217 = .ok (.goto 53, 3) := by decide +kernel
theorem dX7_tellHouse_220 : decode cX7_tellHouse 220 = .ok (.new 79, 3) := by decide +kernel
theorem dX7_tellHouse_223 : decode cX7_tellHouse 223 = .ok (.dup, 1) := by decide +kernel
theorem dX7_tellHouse_224 : decode cX7_tellHouse 224 = .ok (.iload 4, 2) := by decide +kernel
theorem dX7_tellHouse_226 : decode cX7_tellHouse 226 = .ok (.iload 5, 2) := by decide +kernel
theorem dX7_tellHouse_228 : decode cX7_tellHouse 228 = .ok (.iload 6, 2) := by decide +kernel
theorem dX7_tellHouse_230 : decode cX7_tellHouse 230 = .ok (.iload 7, 2) := by decide +kernel
theorem dX7_tellHouse_232 : decode cX7_tellHouse 232 = .ok (.iload 8, 2) := by decide +kernel
theorem dX7_tellHouse_234 : decode cX7_tellHouse 234 = .ok (.iload 9, 2) := by decide +kernel
theorem dX7_tellHouse_236 : decode cX7_tellHouse 236 = .ok (.invokespecial 81, 3) := by decide +kernel
theorem dX7_tellHouse_239 : decode cX7_tellHouse 239 = .ok (.astore 10, 2) := by decide +kernel
theorem dX7_tellHouse_241 : decode cX7_tellHouse 241 = .ok (.goto 29, 3) := by decide +kernel
theorem dX7_tellHouse_244 : decode cX7_tellHouse 244 = .ok (.new 82, 3) := by decide +kernel
theorem dX7_tellHouse_247 : decode cX7_tellHouse 247 = .ok (.dup, 1) := by decide +kernel
theorem dX7_tellHouse_248 : decode cX7_tellHouse 248 = .ok (.iload 4, 2) := by decide +kernel
theorem dX7_tellHouse_250 : decode cX7_tellHouse 250 = .ok (.iload 5, 2) := by decide +kernel
theorem dX7_tellHouse_252 : decode cX7_tellHouse 252 = .ok (.iload 6, 2) := by decide +kernel
theorem dX7_tellHouse_254 : decode cX7_tellHouse 254 = .ok (.iload 7, 2) := by decide +kernel
theorem dX7_tellHouse_256 : decode cX7_tellHouse 256 = .ok (.iload 8, 2) := by decide +kernel
theorem dX7_tellHouse_258 : decode cX7_tellHouse 258 = .ok (.iload 9, 2) := by decide +kernel
theorem dX7_tellHouse_260 : decode cX7_tellHouse 260 = .ok (.invokespecial 84, 3) := by decide +kernel
theorem dX7_tellHouse_263 : decode cX7_tellHouse 263 = .ok (.astore 10, 2) := by decide +kernel
theorem dX7_tellHouse_265 : decode cX7_tellHouse 265 = .ok (.goto 5, 3) := by decide +kernel
theorem dX7_tellHouse_268 : decode cX7_tellHouse 268 = .ok (.iconst 0, 1) := by decide +kernel
theorem dX7_tellHouse_269 : decode cX7_tellHouse 269 = .ok (.ireturn, 1) := by decide +kernel
theorem dX7_tellHouse_270 : decode cX7_tellHouse 270 = .ok (.aload_n 1, 1) := by decide +kernel
theorem dX7_tellHouse_271 : decode cX7_tellHouse 271 = .ok (.aload 10, 2) := by decide +kernel
theorem dX7_tellHouse_273 : decode cX7_tellHouse 273 = .ok (.aload_n 0, 1) := by decide +kernel
theorem dX7_tellHouse_274 : decode cX7_tellHouse 274 = .ok (.iload_n 2, 1) := by decide +kernel
theorem dX7_tellHouse_275 : decode cX7_tellHouse 275 = .ok (.bipush 9, 2) := by decide +kernel
theorem dX7_tellHouse_277 : decode cX7_tellHouse 277 = .ok (.iadd, 1) := by decide +kernel
theorem dX7_tellHouse_278 : decode cX7_tellHouse 278 = .ok (.iload_n 3, 1) := by decide +kernel
theorem dX7_tellHouse_279 : decode cX7_tellHouse 279 = .ok (.invokevirtual 34, 3) := by decide +kernel
theorem dX7_tellHouse_282 : decode cX7_tellHouse 282 = .ok (.invokevirtual 85, 3) := by decide +kernel
theorem dX7_tellHouse_285 : decode cX7_tellHouse 285 = .ok (.ireturn, 1) := by decide +kernel
theorem dX7_tellPrice_0 : decode cX7_tellPrice 0 = .ok (.aload_n 0, 1) := by decide +kernel
theorem dX7_tellPrice_1 : decode cX7_tellPrice 1 = .ok (.iload_n 2, 1) := by decide +kernel
theorem dX7_tellPrice_2 : decode cX7_tellPrice 2 = .ok (.iconst 1, 1) := by decide +kernel
theorem dX7_tellPrice_3 : decode cX7_tellPrice 3 = .ok (.iadd, 1) := by decide +kernel
theorem dX7_tellPrice_4 : decode cX7_tellPrice 4 = .ok (.invokevirtual 58, 3) := by decide +kernel
theorem dX7_tellPrice_7 : decode cX7_tellPrice 7 = .ok (.istore_n 3, 1) := by decide +kernel
theorem dX7_tellPrice_8 : decode cX7_tellPrice 8 = .ok (.aload_n 0, 1) := by decide +kernel
theorem dX7_tellPrice_9 : decode cX7_tellPrice 9 = .ok (.iload_n 2, 1) := by decide +kernel
theorem dX7_tellPrice_10 : decode cX7_tellPrice 10 = .ok (.iconst 2, 1) := by decide +kernel
theorem dX7_tellPrice_11 : decode cX7_tellPrice 11 = .ok (.iadd, 1) := by decide +kernel
theorem dX7_tellPrice_12 : decode cX7_tellPrice 12 = .ok (.invokevirtual 58, 3) := by decide +kernel
theorem dX7_tellPrice_15 : decode cX7_tellPrice 15 = .ok (.istore 4, 2) := by decide +kernel
theorem dX7_tellPrice_17 : decode cX7_tellPrice 17 = .ok (.iload_n 3, 1) := by decide +kernel
theorem dX7_tellPrice_18 : decode cX7_tellPrice 18 = .ok (.invokestatic 61, 3) := by decide +kernel
theorem dX7_tellPrice_21 : decode cX7_tellPrice 21 = .ok (.ifCond .eq 16, 3) := by decide +kernel
theorem dX7_tellPrice_24 : decode cX7_tellPrice 24 = .ok (.iload 4, 2) := by decide +kernel
theorem dX7_tellPrice_26 : decode cX7_tellPrice 26 = .ok (.iconst 1, 1) := by decide +kernel
theorem dX7_tellPrice_27 : decode cX7_tellPrice 27 = .ok (.if_icmp .lt 10, 3) := by decide +kernel
theorem dX7_tellPrice_30 : decode cX7_tellPrice 30 = .ok (.iload 4, 2) := by decide +kernel
theorem dX7_tellPrice_32 : decode cX7_tellPrice 32 = .ok (.bipush 9, 2) := by decide +kernel
theorem dX7_tellPrice_34 : decode cX7_tellPrice 34 = .ok (.if_icmp .le 5, 3) := by decide +kernel
theorem dX7_tellPrice_37 : decode cX7_tellPrice 37 = .ok (.iconst 0, 1) := by decide +kernel
theorem dX7_tellPrice_38 : decode cX7_tellPrice 38 = .ok (.ireturn, 1) := by decide +kernel
theorem dX7_tellPrice_39 : decode cX7_tellPrice 39 = .ok (.aload_n 1, 1) := by decide +kernel
theorem dX7_tellPrice_40 : decode cX7_tellPrice 40 = .ok (.getfield 91, 3) := by decide +kernel
theorem dX7_tellPrice_43 : decode cX7_tellPrice 43 = .ok (.iload_n 3, 1) := by decide +kernel
theorem dX7_tellPrice_44 : decode cX7_tellPrice 44 = .ok (.iload 4, 2) := by decide +kernel
theorem dX7_tellPrice_46 : decode cX7_tellPrice 46 = .ok (.iastore, 1) := by decide +kernel
theorem dX7_tellPrice_47 : decode cX7_tellPrice 47 = .ok (.iconst 1, 1) := by decide +kernel
theorem dX7_tellPrice_48 : decode cX7_tellPrice 48 = .ok (.ireturn, 1) := by decide +kernel
theorem dX7_tellLaw_0 : decode cX7_tellLaw 0 = .ok (.aload_n 0, 1) := by decide +kernel
theorem dX7_tellLaw_1 : decode cX7_tellLaw 1 = .ok (.iload_n 2, 1) := by decide +kernel
theorem dX7_tellLaw_2 : decode cX7_tellLaw 2 = .ok (.iconst 1, 1) := by decide +kernel
theorem dX7_tellLaw_3 : decode cX7_tellLaw 3 = .ok (.iadd, 1) := by decide +kernel
theorem dX7_tellLaw_4 : decode cX7_tellLaw 4 = .ok (.invokevirtual 58, 3) := by decide +kernel
theorem dX7_tellLaw_7 : decode cX7_tellLaw 7 = .ok (.istore_n 3, 1) := by decide +kernel
theorem dX7_tellLaw_8 : decode cX7_tellLaw 8 = .ok (.iload_n 3, 1) := by decide +kernel
theorem dX7_tellLaw_9 : decode cX7_tellLaw 9 = .ok (.invokestatic 94, 3) := by decide +kernel
theorem dX7_tellLaw_12 : decode cX7_tellLaw 12 = .ok (.ifCond .ne 5, 3) := by decide +kernel
theorem dX7_tellLaw_15 : decode cX7_tellLaw 15 = .ok (.iconst 0, 1) := by decide +kernel
theorem dX7_tellLaw_16 : decode cX7_tellLaw 16 = .ok (.ireturn, 1) := by decide +kernel
theorem dX7_tellLaw_17 : decode cX7_tellLaw 17 = .ok (.aload_n 1, 1) := by decide +kernel
theorem dX7_tellLaw_18 : decode cX7_tellLaw 18 = .ok (.iload_n 3, 1) := by decide +kernel
theorem dX7_tellLaw_19 : decode cX7_tellLaw 19 = .ok (.putfield 97, 3) := by decide +kernel
theorem dX7_tellLaw_22 : decode cX7_tellLaw 22 = .ok (.iconst 1, 1) := by decide +kernel
theorem dX7_tellLaw_23 : decode cX7_tellLaw 23 = .ok (.ireturn, 1) := by decide +kernel
theorem dX7_tellDebt_0 : decode cX7_tellDebt 0 = .ok (.aload_n 0, 1) := by decide +kernel
theorem dX7_tellDebt_1 : decode cX7_tellDebt 1 = .ok (.iload_n 2, 1) := by decide +kernel
theorem dX7_tellDebt_2 : decode cX7_tellDebt 2 = .ok (.iconst 1, 1) := by decide +kernel
theorem dX7_tellDebt_3 : decode cX7_tellDebt 3 = .ok (.iadd, 1) := by decide +kernel
theorem dX7_tellDebt_4 : decode cX7_tellDebt 4 = .ok (.invokevirtual 58, 3) := by decide +kernel
theorem dX7_tellDebt_7 : decode cX7_tellDebt 7 = .ok (.istore 4, 2) := by decide +kernel
theorem dX7_tellDebt_9 : decode cX7_tellDebt 9 = .ok (.aload_n 0, 1) := by decide +kernel
theorem dX7_tellDebt_10 : decode cX7_tellDebt 10 = .ok (.iload_n 2, 1) := by decide +kernel
theorem dX7_tellDebt_11 : decode cX7_tellDebt 11 = .ok (.iconst 2, 1) := by decide +kernel
theorem dX7_tellDebt_12 : decode cX7_tellDebt 12 = .ok (.iadd, 1) := by decide +kernel
theorem dX7_tellDebt_13 : decode cX7_tellDebt 13 = .ok (.invokevirtual 58, 3) := by decide +kernel
theorem dX7_tellDebt_16 : decode cX7_tellDebt 16 = .ok (.istore 5, 2) := by decide +kernel
theorem dX7_tellDebt_18 : decode cX7_tellDebt 18 = .ok (.aload_n 1, 1) := by decide +kernel
theorem dX7_tellDebt_19 : decode cX7_tellDebt 19 = .ok (.iload 4, 2) := by decide +kernel
theorem dX7_tellDebt_21 : decode cX7_tellDebt 21 = .ok (.iload 5, 2) := by decide +kernel
theorem dX7_tellDebt_23 : decode cX7_tellDebt 23 = .ok (.invokevirtual 100, 3) := by decide +kernel
theorem dX7_tellDebt_26 : decode cX7_tellDebt 26 = .ok (.ifCond .ne 5, 3) := by decide +kernel
theorem dX7_tellDebt_29 : decode cX7_tellDebt 29 = .ok (.iconst 0, 1) := by decide +kernel
theorem dX7_tellDebt_30 : decode cX7_tellDebt 30 = .ok (.ireturn, 1) := by decide +kernel
theorem dX7_tellDebt_31 : decode cX7_tellDebt 31 = .ok (.aload_n 1, 1) := by decide +kernel
theorem dX7_tellDebt_32 : decode cX7_tellDebt 32 = .ok (.getfield 104, 3) := by decide +kernel
theorem dX7_tellDebt_35 : decode cX7_tellDebt 35 = .ok (.iload 4, 2) := by decide +kernel
theorem dX7_tellDebt_37 : decode cX7_tellDebt 37 = .ok (.iload 5, 2) := by decide +kernel
theorem dX7_tellDebt_39 : decode cX7_tellDebt 39 = .ok (.aload_n 0, 1) := by decide +kernel
theorem dX7_tellDebt_40 : decode cX7_tellDebt 40 = .ok (.iload_n 2, 1) := by decide +kernel
theorem dX7_tellDebt_41 : decode cX7_tellDebt 41 = .ok (.iconst 3, 1) := by decide +kernel
theorem dX7_tellDebt_42 : decode cX7_tellDebt 42 = .ok (.iadd, 1) := by decide +kernel
theorem dX7_tellDebt_43 : decode cX7_tellDebt 43 = .ok (.iload_n 3, 1) := by decide +kernel
theorem dX7_tellDebt_44 : decode cX7_tellDebt 44 = .ok (.invokevirtual 34, 3) := by decide +kernel
theorem dX7_tellDebt_47 : decode cX7_tellDebt 47 = .ok (.invokevirtual 108, 3) := by decide +kernel
theorem dX7_tellDebt_50 : decode cX7_tellDebt 50 = .ok (.iconst 1, 1) := by decide +kernel
theorem dX7_tellDebt_51 : decode cX7_tellDebt 51 = .ok (.ireturn, 1) := by decide +kernel
theorem dX8_init_0 : decode cX8_init 0 = .ok (.aload_n 0, 1) := by decide +kernel
theorem dX8_init_1 : decode cX8_init 1 = .ok (.iload_n 1, 1) := by decide +kernel
theorem dX8_init_2 : decode cX8_init 2 = .ok (.iload_n 2, 1) := by decide +kernel
theorem dX8_init_3 : decode cX8_init 3 = .ok (.iload_n 3, 1) := by decide +kernel
theorem dX8_init_4 : decode cX8_init 4 = .ok (.iload 4, 2) := by decide +kernel
theorem dX8_init_6 : decode cX8_init 6 = .ok (.iload 5, 2) := by decide +kernel
theorem dX8_init_8 : decode cX8_init 8 = .ok (.iload 6, 2) := by decide +kernel
theorem dX8_init_10 : decode cX8_init 10 = .ok (.invokespecial 1, 3) := by decide +kernel
theorem dX8_init_13 : decode cX8_init 13 = .ok (.return_, 1) := by decide +kernel
theorem dX8_kind_0 : decode cX8_kind 0 = .ok (.iconst 4, 1) := by decide +kernel
theorem dX8_kind_1 : decode cX8_kind 1 = .ok (.ireturn, 1) := by decide +kernel
theorem dX8_sellsAt_0 : decode cX8_sellsAt 0 = .ok (.aload_n 0, 1) := by decide +kernel
theorem dX8_sellsAt_1 : decode cX8_sellsAt 1 = .ok (.getfield 7, 3) := by decide +kernel
theorem dX8_sellsAt_4 : decode cX8_sellsAt 4 = .ok (.aload_n 0, 1) := by decide +kernel
theorem dX8_sellsAt_5 : decode cX8_sellsAt 5 = .ok (.getfield 13, 3) := by decide +kernel
theorem dX8_sellsAt_8 : decode cX8_sellsAt 8 = .ok (.iadd, 1) := by decide +kernel
theorem dX8_sellsAt_9 : decode cX8_sellsAt 9 = .ok (.ireturn, 1) := by decide +kernel
theorem dX9_init_0 : decode cX9_init 0 = .ok (.aload_n 0, 1) := by decide +kernel
theorem dX9_init_1 : decode cX9_init 1 = .ok (.invokespecial 3, 3) := by decide +kernel
theorem dX9_init_4 : decode cX9_init 4 = .ok (.aload_n 0, 1) := by decide +kernel
theorem dX9_init_5 : decode cX9_init 5 = .ok (.bipush 6, 2) := by decide +kernel
theorem dX9_init_7 : decode cX9_init 7 = .ok (.newarray .int, 2) := by decide +kernel
theorem dX9_init_9 : decode cX9_init 9 = .ok (.putfield 9, 3) := by decide +kernel
theorem dX9_init_12 : decode cX9_init 12 = .ok (.return_, 1) := by decide +kernel
theorem dX9_clear_0 : decode cX9_clear 0 = .ok (.aload_n 0, 1) := by decide +kernel
theorem dX9_clear_1 : decode cX9_clear 1 = .ok (.iconst 0, 1) := by decide +kernel
theorem dX9_clear_2 : decode cX9_clear 2 = .ok (.putfield 15, 3) := by decide +kernel
theorem dX9_clear_5 : decode cX9_clear 5 = .ok (.aload_n 0, 1) := by decide +kernel
theorem dX9_clear_6 : decode cX9_clear 6 = .ok (.invokevirtual 19, 3) := by decide +kernel
theorem dX9_clear_9 : decode cX9_clear 9 = .ok (.iconst 0, 1) := by decide +kernel
theorem dX9_clear_10 : decode cX9_clear 10 = .ok (.istore_n 1, 1) := by decide +kernel
theorem dX9_clear_11 : decode cX9_clear 11 = .ok (.iload_n 1, 1) := by decide +kernel
theorem dX9_clear_12 : decode cX9_clear 12 = .ok (.aload_n 0, 1) := by decide +kernel
theorem dX9_clear_13 : decode cX9_clear 13 = .ok (.getfield 9, 3) := by decide +kernel
theorem dX9_clear_16 : decode cX9_clear 16 = .ok (.arraylength, 1) := by decide +kernel
theorem dX9_clear_17 : decode cX9_clear 17 = .ok (.if_icmp .ge 16, 3) := by decide +kernel
theorem dX9_clear_20 : decode cX9_clear 20 = .ok (.aload_n 0, 1) := by decide +kernel
theorem dX9_clear_21 : decode cX9_clear 21 = .ok (.getfield 9, 3) := by decide +kernel
theorem dX9_clear_24 : decode cX9_clear 24 = .ok (.iload_n 1, 1) := by decide +kernel
theorem dX9_clear_25 : decode cX9_clear 25 = .ok (.iconst 0, 1) := by decide +kernel
theorem dX9_clear_26 : decode cX9_clear 26 = .ok (.iastore, 1) := by decide +kernel
theorem dX9_clear_27 : decode cX9_clear 27 = .ok (.iinc 1 1, 3) := by decide +kernel
theorem dX9_clear_30 : decode cX9_clear 30 = .ok (.goto (-19), 3) := by decide +kernel
theorem dX9_clear_33 : decode cX9_clear 33 = .ok (.return_, 1) := by decide +kernel
theorem dX9_beginWeek_0 : decode cX9_beginWeek 0 = .ok (.aload_n 0, 1) := by decide +kernel
theorem dX9_beginWeek_1 : decode cX9_beginWeek 1 = .ok (.iconst 0, 1) := by decide +kernel
theorem dX9_beginWeek_2 : decode cX9_beginWeek 2 = .ok (.putfield 22, 3) := by decide +kernel
theorem dX9_beginWeek_5 : decode cX9_beginWeek 5 = .ok (.aload_n 0, 1) := by decide +kernel
theorem dX9_beginWeek_6 : decode cX9_beginWeek 6 = .ok (.iconst 0, 1) := by decide +kernel
theorem dX9_beginWeek_7 : decode cX9_beginWeek 7 = .ok (.putfield 25, 3) := by decide +kernel
theorem dX9_beginWeek_10 : decode cX9_beginWeek 10 = .ok (.return_, 1) := by decide +kernel
theorem dX9_addUse_0 : decode cX9_addUse 0 = .ok (.aload_n 0, 1) := by decide +kernel
theorem dX9_addUse_1 : decode cX9_addUse 1 = .ok (.dup, 1) := by decide +kernel
theorem dX9_addUse_2 : decode cX9_addUse 2 = .ok (.getfield 15, 3) := by decide +kernel
theorem dX9_addUse_5 : decode cX9_addUse 5 = .ok (.iload_n 2, 1) := by decide +kernel
theorem dX9_addUse_6 : decode cX9_addUse 6 = .ok (.iadd, 1) := by decide +kernel
theorem dX9_addUse_7 : decode cX9_addUse 7 = .ok (.putfield 15, 3) := by decide +kernel
theorem dX9_addUse_10 : decode cX9_addUse 10 = .ok (.aload_n 0, 1) := by decide +kernel
theorem dX9_addUse_11 : decode cX9_addUse 11 = .ok (.getfield 9, 3) := by decide +kernel
theorem dX9_addUse_14 : decode cX9_addUse 14 = .ok (.iload_n 1, 1) := by decide +kernel
theorem dX9_addUse_15 : decode cX9_addUse 15 = .ok (.dup2, 1) := by decide +kernel
theorem dX9_addUse_16 : decode cX9_addUse 16 = .ok (.iaload, 1) := by decide +kernel
theorem dX9_addUse_17 : decode cX9_addUse 17 = .ok (.iload_n 2, 1) := by decide +kernel
theorem dX9_addUse_18 : decode cX9_addUse 18 = .ok (.iadd, 1) := by decide +kernel
theorem dX9_addUse_19 : decode cX9_addUse 19 = .ok (.iastore, 1) := by decide +kernel
theorem dX9_addUse_20 : decode cX9_addUse 20 = .ok (.aload_n 0, 1) := by decide +kernel
theorem dX9_addUse_21 : decode cX9_addUse 21 = .ok (.dup, 1) := by decide +kernel
theorem dX9_addUse_22 : decode cX9_addUse 22 = .ok (.getfield 25, 3) := by decide +kernel
theorem dX9_addUse_25 : decode cX9_addUse 25 = .ok (.iload_n 3, 1) := by decide +kernel
theorem dX9_addUse_26 : decode cX9_addUse 26 = .ok (.iload_n 2, 1) := by decide +kernel
theorem dX9_addUse_27 : decode cX9_addUse 27 = .ok (.isub, 1) := by decide +kernel
theorem dX9_addUse_28 : decode cX9_addUse 28 = .ok (.iadd, 1) := by decide +kernel
theorem dX9_addUse_29 : decode cX9_addUse 29 = .ok (.putfield 25, 3) := by decide +kernel
theorem dX9_addUse_32 : decode cX9_addUse 32 = .ok (.return_, 1) := by decide +kernel
theorem dX10_stuckOf_0 : decode cX10_stuckOf 0 = .ok (.iconst 0, 1) := by decide +kernel
theorem dX10_stuckOf_1 : decode cX10_stuckOf 1 = .ok (.istore_n 2, 1) := by decide +kernel
theorem dX10_stuckOf_2 : decode cX10_stuckOf 2 = .ok (.iconst 0, 1) := by decide +kernel
theorem dX10_stuckOf_3 : decode cX10_stuckOf 3 = .ok (.istore_n 3, 1) := by decide +kernel
theorem dX10_stuckOf_4 : decode cX10_stuckOf 4 = .ok (.iload_n 3, 1) := by decide +kernel
theorem dX10_stuckOf_5 : decode cX10_stuckOf 5 = .ok (.aload_n 0, 1) := by decide +kernel
theorem dX10_stuckOf_6 : decode cX10_stuckOf 6 = .ok (.getfield 9, 3) := by decide +kernel
theorem dX10_stuckOf_9 : decode cX10_stuckOf 9 = .ok (.if_icmp .ge 40, 3) := by decide +kernel
theorem dX10_stuckOf_12 : decode cX10_stuckOf 12 = .ok (.aload_n 0, 1) := by decide +kernel
theorem dX10_stuckOf_13 : decode cX10_stuckOf 13 = .ok (.getfield 15, 3) := by decide +kernel
theorem dX10_stuckOf_16 : decode cX10_stuckOf 16 = .ok (.iload_n 3, 1) := by decide +kernel
theorem dX10_stuckOf_17 : decode cX10_stuckOf 17 = .ok (.aaload, 1) := by decide +kernel
theorem dX10_stuckOf_18 : decode cX10_stuckOf 18 = .ok (.iload_n 1, 1) := by decide +kernel
theorem dX10_stuckOf_19 : decode cX10_stuckOf 19 = .ok (.invokevirtual 19, 3) := by decide +kernel
theorem dX10_stuckOf_22 : decode cX10_stuckOf 22 = .ok (.ifCond .ne 21, 3) := by decide +kernel
theorem dX10_stuckOf_25 : decode cX10_stuckOf 25 = .ok (.aload_n 0, 1) := by decide +kernel
theorem dX10_stuckOf_26 : decode cX10_stuckOf 26 = .ok (.iload_n 3, 1) := by decide +kernel
theorem dX10_stuckOf_27 : decode cX10_stuckOf 27 = .ok (.iload_n 1, 1) := by decide +kernel
theorem dX10_stuckOf_28 : decode cX10_stuckOf 28 = .ok (.invokestatic 25, 3) := by decide +kernel
theorem dX10_stuckOf_31 : decode cX10_stuckOf 31 = .ok (.ifCond .ne 12, 3) := by decide +kernel
theorem dX10_stuckOf_34 : decode cX10_stuckOf 34 = .ok (.iload_n 2, 1) := by decide +kernel
theorem dX10_stuckOf_35 : decode cX10_stuckOf 35 = .ok (.aload_n 0, 1) := by decide +kernel
theorem dX10_stuckOf_36 : decode cX10_stuckOf 36 = .ok (.iload_n 3, 1) := by decide +kernel
theorem dX10_stuckOf_37 : decode cX10_stuckOf 37 = .ok (.iload_n 1, 1) := by decide +kernel
theorem dX10_stuckOf_38 : decode cX10_stuckOf 38 = .ok (.invokevirtual 31, 3) := by decide +kernel
theorem dX10_stuckOf_41 : decode cX10_stuckOf 41 = .ok (.iadd, 1) := by decide +kernel
theorem dX10_stuckOf_42 : decode cX10_stuckOf 42 = .ok (.istore_n 2, 1) := by decide +kernel
theorem dX10_stuckOf_43 : decode cX10_stuckOf 43 = .ok (.iinc 3 1, 3) := by decide +kernel
theorem dX10_stuckOf_46 : decode cX10_stuckOf 46 = .ok (.goto (-42), 3) := by decide +kernel
theorem dX10_stuckOf_49 : decode cX10_stuckOf 49 = .ok (.iload_n 2, 1) := by decide +kernel
theorem dX10_stuckOf_50 : decode cX10_stuckOf 50 = .ok (.ireturn, 1) := by decide +kernel
theorem dX10_hasBuyer_0 : decode cX10_hasBuyer 0 = .ok (.iconst 0, 1) := by decide +kernel
theorem dX10_hasBuyer_1 : decode cX10_hasBuyer 1 = .ok (.istore_n 3, 1) := by decide +kernel
theorem dX10_hasBuyer_2 : decode cX10_hasBuyer 2 = .ok (.iload_n 3, 1) := by decide +kernel
theorem dX10_hasBuyer_3 : decode cX10_hasBuyer 3 = .ok (.aload_n 0, 1) := by decide +kernel
theorem dX10_hasBuyer_4 : decode cX10_hasBuyer 4 = .ok (.getfield 9, 3) := by decide +kernel
theorem dX10_hasBuyer_7 : decode cX10_hasBuyer 7 = .ok (.if_icmp .ge 33, 3) := by decide +kernel
theorem dX10_hasBuyer_10 : decode cX10_hasBuyer 10 = .ok (.aload_n 0, 1) := by decide +kernel
theorem dX10_hasBuyer_11 : decode cX10_hasBuyer 11 = .ok (.getfield 15, 3) := by decide +kernel
theorem dX10_hasBuyer_14 : decode cX10_hasBuyer 14 = .ok (.iload_n 3, 1) := by decide +kernel
theorem dX10_hasBuyer_15 : decode cX10_hasBuyer 15 = .ok (.aaload, 1) := by decide +kernel
theorem dX10_hasBuyer_16 : decode cX10_hasBuyer 16 = .ok (.iload_n 2, 1) := by decide +kernel
theorem dX10_hasBuyer_17 : decode cX10_hasBuyer 17 = .ok (.invokevirtual 19, 3) := by decide +kernel
theorem dX10_hasBuyer_20 : decode cX10_hasBuyer 20 = .ok (.ifCond .eq 14, 3) := by decide +kernel
theorem dX10_hasBuyer_23 : decode cX10_hasBuyer 23 = .ok (.aload_n 0, 1) := by decide +kernel
theorem dX10_hasBuyer_24 : decode cX10_hasBuyer 24 = .ok (.iload_n 1, 1) := by decide +kernel
theorem dX10_hasBuyer_25 : decode cX10_hasBuyer 25 = .ok (.iload_n 3, 1) := by decide +kernel
theorem dX10_hasBuyer_26 : decode cX10_hasBuyer 26 = .ok (.invokevirtual 35, 3) := by decide +kernel
theorem dX10_hasBuyer_29 : decode cX10_hasBuyer 29 = .ok (.ifCond .eq 5, 3) := by decide +kernel
theorem dX10_hasBuyer_32 : decode cX10_hasBuyer 32 = .ok (.iconst 1, 1) := by decide +kernel
theorem dX10_hasBuyer_33 : decode cX10_hasBuyer 33 = .ok (.ireturn, 1) := by decide +kernel
theorem dX10_hasBuyer_34 : decode cX10_hasBuyer 34 = .ok (.iinc 3 1, 3) := by decide +kernel
theorem dX10_hasBuyer_37 : decode cX10_hasBuyer 37 = .ok (.goto (-35), 3) := by decide +kernel
theorem dX10_hasBuyer_40 : decode cX10_hasBuyer 40 = .ok (.iconst 0, 1) := by decide +kernel
theorem dX10_hasBuyer_41 : decode cX10_hasBuyer 41 = .ok (.ireturn, 1) := by decide +kernel
theorem dX10_mostOf_0 : decode cX10_mostOf 0 = .ok (.aload_n 0, 1) := by decide +kernel
theorem dX10_mostOf_1 : decode cX10_mostOf 1 = .ok (.iload_n 1, 1) := by decide +kernel
theorem dX10_mostOf_2 : decode cX10_mostOf 2 = .ok (.iconst 0, 1) := by decide +kernel
theorem dX10_mostOf_3 : decode cX10_mostOf 3 = .ok (.invokestatic 39, 3) := by decide +kernel
theorem dX10_mostOf_6 : decode cX10_mostOf 6 = .ok (.istore_n 2, 1) := by decide +kernel
theorem dX10_mostOf_7 : decode cX10_mostOf 7 = .ok (.iconst 1, 1) := by decide +kernel
theorem dX10_mostOf_8 : decode cX10_mostOf 8 = .ok (.istore_n 3, 1) := by decide +kernel
theorem dX10_mostOf_9 : decode cX10_mostOf 9 = .ok (.iload_n 3, 1) := by decide +kernel
theorem dX10_mostOf_10 : decode cX10_mostOf 10 = .ok (.iconst 1, 1) := by decide +kernel
theorem dX10_mostOf_11 : decode cX10_mostOf 11 = .ok (.aload_n 0, 1) := by decide +kernel
theorem dX10_mostOf_12 : decode cX10_mostOf 12 = .ok (.getfield 9, 3) := by decide +kernel
theorem dX10_mostOf_15 : decode cX10_mostOf 15 = .ok (.ishl, 1) := by decide +kernel
theorem dX10_mostOf_16 : decode cX10_mostOf 16 = .ok (.if_icmp .ge 20, 3) := by decide +kernel
theorem dX10_mostOf_19 : decode cX10_mostOf 19 = .ok (.iload_n 2, 1) := by decide +kernel
theorem dX10_mostOf_20 : decode cX10_mostOf 20 = .ok (.aload_n 0, 1) := by decide +kernel
theorem dX10_mostOf_21 : decode cX10_mostOf 21 = .ok (.iload_n 1, 1) := by decide +kernel
theorem dX10_mostOf_22 : decode cX10_mostOf 22 = .ok (.iload_n 3, 1) := by decide +kernel
theorem dX10_mostOf_23 : decode cX10_mostOf 23 = .ok (.invokestatic 39, 3) := by decide +kernel
theorem dX10_mostOf_26 : decode cX10_mostOf 26 = .ok (.invokestatic 43, 3) := by decide +kernel
theorem dX10_mostOf_29 : decode cX10_mostOf 29 = .ok (.istore_n 2, 1) := by decide +kernel
theorem dX10_mostOf_30 : decode cX10_mostOf 30 = .ok (.iinc 3 1, 3) := by decide +kernel
theorem dX10_mostOf_33 : decode cX10_mostOf 33 = .ok (.goto (-24), 3) := by decide +kernel
theorem dX10_mostOf_36 : decode cX10_mostOf 36 = .ok (.iload_n 2, 1) := by decide +kernel
theorem dX10_mostOf_37 : decode cX10_mostOf 37 = .ok (.ireturn, 1) := by decide +kernel
theorem dX10_cutBeside_0 : decode cX10_cutBeside 0 = .ok (.iconst 0, 1) := by decide +kernel
theorem dX10_cutBeside_1 : decode cX10_cutBeside 1 = .ok (.istore_n 3, 1) := by decide +kernel
theorem dX10_cutBeside_2 : decode cX10_cutBeside 2 = .ok (.iconst 0, 1) := by decide +kernel
theorem dX10_cutBeside_3 : decode cX10_cutBeside 3 = .ok (.istore 4, 2) := by decide +kernel
theorem dX10_cutBeside_5 : decode cX10_cutBeside 5 = .ok (.iload 4, 2) := by decide +kernel
theorem dX10_cutBeside_7 : decode cX10_cutBeside 7 = .ok (.aload_n 0, 1) := by decide +kernel
theorem dX10_cutBeside_8 : decode cX10_cutBeside 8 = .ok (.getfield 9, 3) := by decide +kernel
theorem dX10_cutBeside_11 : decode cX10_cutBeside 11 = .ok (.if_icmp .ge 73, 3) := by decide +kernel
theorem dX10_cutBeside_14 : decode cX10_cutBeside 14 = .ok (.aload_n 0, 1) := by decide +kernel
theorem dX10_cutBeside_15 : decode cX10_cutBeside 15 = .ok (.getfield 15, 3) := by decide +kernel
theorem dX10_cutBeside_18 : decode cX10_cutBeside 18 = .ok (.iload 4, 2) := by decide +kernel
theorem dX10_cutBeside_20 : decode cX10_cutBeside 20 = .ok (.aaload, 1) := by decide +kernel
theorem dX10_cutBeside_21 : decode cX10_cutBeside 21 = .ok (.iload_n 1, 1) := by decide +kernel
theorem dX10_cutBeside_22 : decode cX10_cutBeside 22 = .ok (.invokevirtual 19, 3) := by decide +kernel
theorem dX10_cutBeside_25 : decode cX10_cutBeside 25 = .ok (.ifCond .eq 34, 3) := by decide +kernel
theorem dX10_cutBeside_28 : decode cX10_cutBeside 28 = .ok (.iload_n 3, 1) := by decide +kernel
theorem dX10_cutBeside_29 : decode cX10_cutBeside 29 = .ok (.aload_n 0, 1) := by decide +kernel
theorem dX10_cutBeside_30 : decode cX10_cutBeside 30 = .ok (.iload 4, 2) := by decide +kernel
theorem dX10_cutBeside_32 : decode cX10_cutBeside 32 = .ok (.iload_n 1, 1) := by decide +kernel
theorem dX10_cutBeside_33 : decode cX10_cutBeside 33 = .ok (.iload_n 2, 1) := by decide +kernel
theorem dX10_cutBeside_34 : decode cX10_cutBeside 34 = .ok (.invokestatic 48, 3) := by decide +kernel
theorem dX10_cutBeside_37 : decode cX10_cutBeside 37 = .ok (.ifCond .eq 16, 3) := by decide +kernel
theorem dX10_cutBeside_40 : decode cX10_cutBeside 40 = .ok (.aload_n 0, 1) := by decide +kernel
theorem dX10_cutBeside_41 : decode cX10_cutBeside 41 = .ok (.getfield 15, 3) := by decide +kernel
theorem dX10_cutBeside_44 : decode cX10_cutBeside 44 = .ok (.iload 4, 2) := by decide +kernel
theorem dX10_cutBeside_46 : decode cX10_cutBeside 46 = .ok (.aaload, 1) := by decide +kernel
theorem dX10_cutBeside_47 : decode cX10_cutBeside 47 = .ok (.getfield 52, 3) := by decide +kernel
theorem dX10_cutBeside_50 : decode cX10_cutBeside 50 = .ok (.goto 4, 3) := by decide +kernel
theorem dX10_cutBeside_53 : decode cX10_cutBeside 53 = .ok (.iconst 0, 1) := by decide +kernel
theorem dX10_cutBeside_54 : decode cX10_cutBeside 54 = .ok (.iadd, 1) := by decide +kernel
theorem dX10_cutBeside_55 : decode cX10_cutBeside 55 = .ok (.istore_n 3, 1) := by decide +kernel
theorem dX10_cutBeside_56 : decode cX10_cutBeside 56 = .ok (.goto 22, 3) := by decide +kernel
theorem dX10_cutBeside_59 : decode cX10_cutBeside 59 = .ok (.iload_n 2, 1) := by decide +kernel
theorem dX10_cutBeside_60 : decode cX10_cutBeside 60 = .ok (.iload 4, 2) := by decide +kernel
theorem dX10_cutBeside_62 : decode cX10_cutBeside 62 = .ok (.ishr, 1) := by decide +kernel
theorem dX10_cutBeside_63 : decode cX10_cutBeside 63 = .ok (.iconst 1, 1) := by decide +kernel
theorem dX10_cutBeside_64 : decode cX10_cutBeside 64 = .ok (.iand, 1) := by decide +kernel
theorem dX10_cutBeside_65 : decode cX10_cutBeside 65 = .ok (.ifCond .ne 13, 3) := by decide +kernel
theorem dX10_cutBeside_68 : decode cX10_cutBeside 68 = .ok (.iload_n 3, 1) := by decide +kernel
theorem dX10_cutBeside_69 : decode cX10_cutBeside 69 = .ok (.aload_n 0, 1) := by decide +kernel
theorem dX10_cutBeside_70 : decode cX10_cutBeside 70 = .ok (.iload 4, 2) := by decide +kernel
theorem dX10_cutBeside_72 : decode cX10_cutBeside 72 = .ok (.iload_n 1, 1) := by decide +kernel
theorem dX10_cutBeside_73 : decode cX10_cutBeside 73 = .ok (.invokevirtual 31, 3) := by decide +kernel
theorem dX10_cutBeside_76 : decode cX10_cutBeside 76 = .ok (.iadd, 1) := by decide +kernel
theorem dX10_cutBeside_77 : decode cX10_cutBeside 77 = .ok (.istore_n 3, 1) := by decide +kernel
theorem dX10_cutBeside_78 : decode cX10_cutBeside 78 = .ok (.iinc 4 1, 3) := by decide +kernel
theorem dX10_cutBeside_81 : decode cX10_cutBeside 81 = .ok (.goto (-76), 3) := by decide +kernel
theorem dX10_cutBeside_84 : decode cX10_cutBeside 84 = .ok (.iload_n 3, 1) := by decide +kernel
theorem dX10_cutBeside_85 : decode cX10_cutBeside 85 = .ok (.ireturn, 1) := by decide +kernel
theorem dX10_hasSellerAmong_0 : decode cX10_hasSellerAmong 0 = .ok (.iconst 0, 1) := by decide +kernel
theorem dX10_hasSellerAmong_1 : decode cX10_hasSellerAmong 1 = .ok (.istore 4, 2) := by decide +kernel
theorem dX10_hasSellerAmong_3 : decode cX10_hasSellerAmong 3 = .ok (.iload 4, 2) := by decide +kernel
theorem dX10_hasSellerAmong_5 : decode cX10_hasSellerAmong 5 = .ok (.aload_n 0, 1) := by decide +kernel
theorem dX10_hasSellerAmong_6 : decode cX10_hasSellerAmong 6 = .ok (.getfield 9, 3) := by decide +kernel
theorem dX10_hasSellerAmong_9 : decode cX10_hasSellerAmong 9 = .ok (.if_icmp .ge 45, 3) := by decide +kernel
theorem dX10_hasSellerAmong_12 : decode cX10_hasSellerAmong 12 = .ok (.iload_n 3, 1) := by decide +kernel
theorem dX10_hasSellerAmong_13 : decode cX10_hasSellerAmong 13 = .ok (.iload 4, 2) := by decide +kernel
theorem dX10_hasSellerAmong_15 : decode cX10_hasSellerAmong 15 = .ok (.ishr, 1) := by decide +kernel
theorem dX10_hasSellerAmong_16 : decode cX10_hasSellerAmong 16 = .ok (.iconst 1, 1) := by decide +kernel
theorem dX10_hasSellerAmong_17 : decode cX10_hasSellerAmong 17 = .ok (.iand, 1) := by decide +kernel
theorem dX10_hasSellerAmong_18 : decode cX10_hasSellerAmong 18 = .ok (.iconst 1, 1) := by decide +kernel
theorem dX10_hasSellerAmong_19 : decode cX10_hasSellerAmong 19 = .ok (.if_icmp .ne 29, 3) := by decide +kernel
theorem dX10_hasSellerAmong_22 : decode cX10_hasSellerAmong 22 = .ok (.aload_n 0, 1) := by decide +kernel
theorem dX10_hasSellerAmong_23 : decode cX10_hasSellerAmong 23 = .ok (.getfield 15, 3) := by decide +kernel
theorem dX10_hasSellerAmong_26 : decode cX10_hasSellerAmong 26 = .ok (.iload 4, 2) := by decide +kernel
theorem dX10_hasSellerAmong_28 : decode cX10_hasSellerAmong 28 = .ok (.aaload, 1) := by decide +kernel
theorem dX10_hasSellerAmong_29 : decode cX10_hasSellerAmong 29 = .ok (.iload_n 2, 1) := by decide +kernel
theorem dX10_hasSellerAmong_30 : decode cX10_hasSellerAmong 30 = .ok (.invokevirtual 19, 3) := by decide +kernel
theorem dX10_hasSellerAmong_33 : decode cX10_hasSellerAmong 33 = .ok (.ifCond .ne 15, 3) := by decide +kernel
theorem dX10_hasSellerAmong_36 : decode cX10_hasSellerAmong 36 = .ok (.aload_n 0, 1) := by decide +kernel
theorem dX10_hasSellerAmong_37 : decode cX10_hasSellerAmong 37 = .ok (.iload 4, 2) := by decide +kernel
theorem dX10_hasSellerAmong_39 : decode cX10_hasSellerAmong 39 = .ok (.iload_n 1, 1) := by decide +kernel
theorem dX10_hasSellerAmong_40 : decode cX10_hasSellerAmong 40 = .ok (.invokevirtual 35, 3) := by decide +kernel
theorem dX10_hasSellerAmong_43 : decode cX10_hasSellerAmong 43 = .ok (.ifCond .eq 5, 3) := by decide +kernel
theorem dX10_hasSellerAmong_46 : decode cX10_hasSellerAmong 46 = .ok (.iconst 1, 1) := by decide +kernel
theorem dX10_hasSellerAmong_47 : decode cX10_hasSellerAmong 47 = .ok (.ireturn, 1) := by decide +kernel
theorem dX10_hasSellerAmong_48 : decode cX10_hasSellerAmong 48 = .ok (.iinc 4 1, 3) := by decide +kernel
theorem dX10_hasSellerAmong_51 : decode cX10_hasSellerAmong 51 = .ok (.goto (-48), 3) := by decide +kernel
theorem dX10_hasSellerAmong_54 : decode cX10_hasSellerAmong 54 = .ok (.iconst 0, 1) := by decide +kernel
theorem dX10_hasSellerAmong_55 : decode cX10_hasSellerAmong 55 = .ok (.ireturn, 1) := by decide +kernel
theorem dX10_ways_0 : decode cX10_ways 0 = .ok (.aload_n 0, 1) := by decide +kernel
theorem dX10_ways_1 : decode cX10_ways 1 = .ok (.iload_n 1, 1) := by decide +kernel
theorem dX10_ways_2 : decode cX10_ways 2 = .ok (.iload_n 2, 1) := by decide +kernel
theorem dX10_ways_3 : decode cX10_ways 3 = .ok (.iconst 1, 1) := by decide +kernel
theorem dX10_ways_4 : decode cX10_ways 4 = .ok (.iload_n 1, 1) := by decide +kernel
theorem dX10_ways_5 : decode cX10_ways 5 = .ok (.ishl, 1) := by decide +kernel
theorem dX10_ways_6 : decode cX10_ways 6 = .ok (.iconst 0, 1) := by decide +kernel
theorem dX10_ways_7 : decode cX10_ways 7 = .ok (.invokestatic 55, 3) := by decide +kernel
theorem dX10_ways_10 : decode cX10_ways 10 = .ok (.ireturn, 1) := by decide +kernel
theorem dX10_waysOn_0 : decode cX10_waysOn 0 = .ok (.iload_n 1, 1) := by decide +kernel
theorem dX10_waysOn_1 : decode cX10_waysOn 1 = .ok (.iload_n 2, 1) := by decide +kernel
theorem dX10_waysOn_2 : decode cX10_waysOn 2 = .ok (.if_icmp .ne 5, 3) := by decide +kernel
theorem dX10_waysOn_5 : decode cX10_waysOn 5 = .ok (.iconst 1, 1) := by decide +kernel
theorem dX10_waysOn_6 : decode cX10_waysOn 6 = .ok (.ireturn, 1) := by decide +kernel
theorem dX10_waysOn_7 : decode cX10_waysOn 7 = .ok (.iload 4, 2) := by decide +kernel
theorem dX10_waysOn_9 : decode cX10_waysOn 9 = .ok (.bipush 6, 2) := by decide +kernel
theorem dX10_waysOn_11 : decode cX10_waysOn 11 = .ok (.if_icmp .lt 5, 3) := by decide +kernel
theorem dX10_waysOn_14 : decode cX10_waysOn 14 = .ok (.iconst 0, 1) := by decide +kernel
theorem dX10_waysOn_15 : decode cX10_waysOn 15 = .ok (.ireturn, 1) := by decide +kernel
theorem dX10_waysOn_16 : decode cX10_waysOn 16 = .ok (.iconst 0, 1) := by decide +kernel
theorem dX10_waysOn_17 : decode cX10_waysOn 17 = .ok (.istore 5, 2) := by decide +kernel
theorem dX10_waysOn_19 : decode cX10_waysOn 19 = .ok (.iconst 0, 1) := by decide +kernel
theorem dX10_waysOn_20 : decode cX10_waysOn 20 = .ok (.istore 6, 2) := by decide +kernel
theorem dX10_waysOn_22 : decode cX10_waysOn 22 = .ok (.iload 6, 2) := by decide +kernel
theorem dX10_waysOn_24 : decode cX10_waysOn 24 = .ok (.aload_n 0, 1) := by decide +kernel
theorem dX10_waysOn_25 : decode cX10_waysOn 25 = .ok (.getfield 9, 3) := by decide +kernel
theorem dX10_waysOn_28 : decode cX10_waysOn 28 = .ok (.if_icmp .ge 50, 3) := by decide +kernel
theorem dX10_waysOn_31 : decode cX10_waysOn 31 = .ok (.iload_n 3, 1) := by decide +kernel
theorem dX10_waysOn_32 : decode cX10_waysOn 32 = .ok (.iload 6, 2) := by decide +kernel
theorem dX10_waysOn_34 : decode cX10_waysOn 34 = .ok (.ishr, 1) := by decide +kernel
theorem dX10_waysOn_35 : decode cX10_waysOn 35 = .ok (.iconst 1, 1) := by decide +kernel
theorem dX10_waysOn_36 : decode cX10_waysOn 36 = .ok (.iand, 1) := by decide +kernel
theorem dX10_waysOn_37 : decode cX10_waysOn 37 = .ok (.ifCond .ne 35, 3) := by decide +kernel
theorem dX10_waysOn_40 : decode cX10_waysOn 40 = .ok (.aload_n 0, 1) := by decide +kernel
theorem dX10_waysOn_41 : decode cX10_waysOn 41 = .ok (.iload_n 1, 1) := by decide +kernel
theorem dX10_waysOn_42 : decode cX10_waysOn 42 = .ok (.iload 6, 2) := by decide +kernel
theorem dX10_waysOn_44 : decode cX10_waysOn 44 = .ok (.invokevirtual 35, 3) := by decide +kernel
theorem dX10_waysOn_47 : decode cX10_waysOn 47 = .ok (.ifCond .eq 25, 3) := by decide +kernel
theorem dX10_waysOn_50 : decode cX10_waysOn 50 = .ok (.iload 5, 2) := by decide +kernel
theorem dX10_waysOn_52 : decode cX10_waysOn 52 = .ok (.aload_n 0, 1) := by decide +kernel
theorem dX10_waysOn_53 : decode cX10_waysOn 53 = .ok (.iload 6, 2) := by decide +kernel
theorem dX10_waysOn_55 : decode cX10_waysOn 55 = .ok (.iload_n 2, 1) := by decide +kernel
theorem dX10_waysOn_56 : decode cX10_waysOn 56 = .ok (.iload_n 3, 1) := by decide +kernel
theorem dX10_waysOn_57 : decode cX10_waysOn 57 = .ok (.iconst 1, 1) := by decide +kernel
theorem dX10_waysOn_58 : decode cX10_waysOn 58 = .ok (.iload 6, 2) := by decide +kernel
theorem dX10_waysOn_60 : decode cX10_waysOn 60 = .ok (.ishl, 1) := by decide +kernel
theorem dX10_waysOn_61 : decode cX10_waysOn 61 = .ok (.ior, 1) := by decide +kernel
theorem dX10_waysOn_62 : decode cX10_waysOn 62 = .ok (.iload 4, 2) := by decide +kernel
theorem dX10_waysOn_64 : decode cX10_waysOn 64 = .ok (.iconst 1, 1) := by decide +kernel
theorem dX10_waysOn_65 : decode cX10_waysOn 65 = .ok (.iadd, 1) := by decide +kernel
theorem dX10_waysOn_66 : decode cX10_waysOn 66 = .ok (.invokestatic 55, 3) := by decide +kernel
theorem dX10_waysOn_69 : decode cX10_waysOn 69 = .ok (.iadd, 1) := by decide +kernel
theorem dX10_waysOn_70 : decode cX10_waysOn 70 = .ok (.istore 5, 2) := by decide +kernel
theorem dX10_waysOn_72 : decode cX10_waysOn 72 = .ok (.iinc 6 1, 3) := by decide +kernel
theorem dX10_waysOn_75 : decode cX10_waysOn 75 = .ok (.goto (-53), 3) := by decide +kernel
theorem dX10_waysOn_78 : decode cX10_waysOn 78 = .ok (.iload 5, 2) := by decide +kernel
theorem dX10_waysOn_80 : decode cX10_waysOn 80 = .ok (.ireturn, 1) := by decide +kernel
theorem dX10_fewestSales_0 : decode cX10_fewestSales 0 = .ok (.iconst 1, 1) := by decide +kernel
theorem dX10_fewestSales_1 : decode cX10_fewestSales 1 = .ok (.iload_n 1, 1) := by decide +kernel
theorem dX10_fewestSales_2 : decode cX10_fewestSales 2 = .ok (.ishl, 1) := by decide +kernel
theorem dX10_fewestSales_3 : decode cX10_fewestSales 3 = .ok (.istore_n 3, 1) := by decide +kernel
theorem dX10_fewestSales_4 : decode cX10_fewestSales 4 = .ok (.iconst 1, 1) := by decide +kernel
theorem dX10_fewestSales_5 : decode cX10_fewestSales 5 = .ok (.istore 4, 2) := by decide +kernel
theorem dX10_fewestSales_7 : decode cX10_fewestSales 7 = .ok (.iload 4, 2) := by decide +kernel
theorem dX10_fewestSales_9 : decode cX10_fewestSales 9 = .ok (.bipush 6, 2) := by decide +kernel
theorem dX10_fewestSales_11 : decode cX10_fewestSales 11 = .ok (.if_icmp .ge 29, 3) := by decide +kernel
theorem dX10_fewestSales_14 : decode cX10_fewestSales 14 = .ok (.iload_n 3, 1) := by decide +kernel
theorem dX10_fewestSales_15 : decode cX10_fewestSales 15 = .ok (.aload_n 0, 1) := by decide +kernel
theorem dX10_fewestSales_16 : decode cX10_fewestSales 16 = .ok (.iload_n 3, 1) := by decide +kernel
theorem dX10_fewestSales_17 : decode cX10_fewestSales 17 = .ok (.invokestatic 59, 3) := by decide +kernel
theorem dX10_fewestSales_20 : decode cX10_fewestSales 20 = .ok (.ior, 1) := by decide +kernel
theorem dX10_fewestSales_21 : decode cX10_fewestSales 21 = .ok (.istore_n 3, 1) := by decide +kernel
theorem dX10_fewestSales_22 : decode cX10_fewestSales 22 = .ok (.iload_n 3, 1) := by decide +kernel
theorem dX10_fewestSales_23 : decode cX10_fewestSales 23 = .ok (.iload_n 2, 1) := by decide +kernel
theorem dX10_fewestSales_24 : decode cX10_fewestSales 24 = .ok (.ishr, 1) := by decide +kernel
theorem dX10_fewestSales_25 : decode cX10_fewestSales 25 = .ok (.iconst 1, 1) := by decide +kernel
theorem dX10_fewestSales_26 : decode cX10_fewestSales 26 = .ok (.iand, 1) := by decide +kernel
theorem dX10_fewestSales_27 : decode cX10_fewestSales 27 = .ok (.iconst 1, 1) := by decide +kernel
theorem dX10_fewestSales_28 : decode cX10_fewestSales 28 = .ok (.if_icmp .ne 6, 3) := by decide +kernel
theorem dX10_fewestSales_31 : decode cX10_fewestSales 31 = .ok (.iload 4, 2) := by decide +kernel
theorem dX10_fewestSales_33 : decode cX10_fewestSales 33 = .ok (.ireturn, 1) := by decide +kernel
theorem dX10_fewestSales_34 : decode cX10_fewestSales 34 = .ok (.iinc 4 1, 3) := by decide +kernel
theorem dX10_fewestSales_37 : decode cX10_fewestSales 37 = .ok (.goto (-30), 3) := by decide +kernel
theorem dX10_fewestSales_40 : decode cX10_fewestSales 40 = .ok (.bipush (-9), 2) := by decide +kernel
theorem dX10_fewestSales_42 : decode cX10_fewestSales 42 = .ok (.ireturn, 1) := by decide +kernel
theorem dX10_oneSaleBehind_0 : decode cX10_oneSaleBehind 0 = .ok (.iconst 0, 1) := by decide +kernel
theorem dX10_oneSaleBehind_1 : decode cX10_oneSaleBehind 1 = .ok (.istore_n 2, 1) := by decide +kernel
theorem dX10_oneSaleBehind_2 : decode cX10_oneSaleBehind 2 = .ok (.iconst 0, 1) := by decide +kernel
theorem dX10_oneSaleBehind_3 : decode cX10_oneSaleBehind 3 = .ok (.istore_n 3, 1) := by decide +kernel
theorem dX10_oneSaleBehind_4 : decode cX10_oneSaleBehind 4 = .ok (.iload_n 3, 1) := by decide +kernel
theorem dX10_oneSaleBehind_5 : decode cX10_oneSaleBehind 5 = .ok (.aload_n 0, 1) := by decide +kernel
theorem dX10_oneSaleBehind_6 : decode cX10_oneSaleBehind 6 = .ok (.getfield 9, 3) := by decide +kernel
theorem dX10_oneSaleBehind_9 : decode cX10_oneSaleBehind 9 = .ok (.if_icmp .ge 53, 3) := by decide +kernel
theorem dX10_oneSaleBehind_12 : decode cX10_oneSaleBehind 12 = .ok (.iconst 0, 1) := by decide +kernel
theorem dX10_oneSaleBehind_13 : decode cX10_oneSaleBehind 13 = .ok (.istore 4, 2) := by decide +kernel
theorem dX10_oneSaleBehind_15 : decode cX10_oneSaleBehind 15 = .ok (.iload 4, 2) := by decide +kernel
theorem dX10_oneSaleBehind_17 : decode cX10_oneSaleBehind 17 = .ok (.aload_n 0, 1) := by decide +kernel
theorem dX10_oneSaleBehind_18 : decode cX10_oneSaleBehind 18 = .ok (.getfield 9, 3) := by decide +kernel
theorem dX10_oneSaleBehind_21 : decode cX10_oneSaleBehind 21 = .ok (.if_icmp .ge 35, 3) := by decide +kernel
theorem dX10_oneSaleBehind_24 : decode cX10_oneSaleBehind 24 = .ok (.iload_n 1, 1) := by decide +kernel
theorem dX10_oneSaleBehind_25 : decode cX10_oneSaleBehind 25 = .ok (.iload_n 3, 1) := by decide +kernel
theorem dX10_oneSaleBehind_26 : decode cX10_oneSaleBehind 26 = .ok (.ishr, 1) := by decide +kernel
theorem dX10_oneSaleBehind_27 : decode cX10_oneSaleBehind 27 = .ok (.iconst 1, 1) := by decide +kernel
theorem dX10_oneSaleBehind_28 : decode cX10_oneSaleBehind 28 = .ok (.iand, 1) := by decide +kernel
theorem dX10_oneSaleBehind_29 : decode cX10_oneSaleBehind 29 = .ok (.iconst 1, 1) := by decide +kernel
theorem dX10_oneSaleBehind_30 : decode cX10_oneSaleBehind 30 = .ok (.if_icmp .ne 20, 3) := by decide +kernel
theorem dX10_oneSaleBehind_33 : decode cX10_oneSaleBehind 33 = .ok (.aload_n 0, 1) := by decide +kernel
theorem dX10_oneSaleBehind_34 : decode cX10_oneSaleBehind 34 = .ok (.iload_n 3, 1) := by decide +kernel
theorem dX10_oneSaleBehind_35 : decode cX10_oneSaleBehind 35 = .ok (.iload 4, 2) := by decide +kernel
theorem dX10_oneSaleBehind_37 : decode cX10_oneSaleBehind 37 = .ok (.invokevirtual 35, 3) := by decide +kernel
theorem dX10_oneSaleBehind_40 : decode cX10_oneSaleBehind 40 = .ok (.ifCond .eq 10, 3) := by decide +kernel
theorem dX10_oneSaleBehind_43 : decode cX10_oneSaleBehind 43 = .ok (.iload_n 2, 1) := by decide +kernel
theorem dX10_oneSaleBehind_44 : decode cX10_oneSaleBehind 44 = .ok (.iconst 1, 1) := by decide +kernel
theorem dX10_oneSaleBehind_45 : decode cX10_oneSaleBehind 45 = .ok (.iload 4, 2) := by decide +kernel
theorem dX10_oneSaleBehind_47 : decode cX10_oneSaleBehind 47 = .ok (.ishl, 1) := by decide +kernel
theorem dX10_oneSaleBehind_48 : decode cX10_oneSaleBehind 48 = .ok (.ior, 1) := by decide +kernel
theorem dX10_oneSaleBehind_49 : decode cX10_oneSaleBehind 49 = .ok (.istore_n 2, 1) := by decide +kernel
theorem dX10_oneSaleBehind_50 : decode cX10_oneSaleBehind 50 = .ok (.iinc 4 1, 3) := by decide +kernel
theorem dX10_oneSaleBehind_53 : decode cX10_oneSaleBehind 53 = .ok (.goto (-38), 3) := by decide +kernel
theorem dX10_oneSaleBehind_56 : decode cX10_oneSaleBehind 56 = .ok (.iinc 3 1, 3) := by decide +kernel
theorem dX10_oneSaleBehind_59 : decode cX10_oneSaleBehind 59 = .ok (.goto (-55), 3) := by decide +kernel
theorem dX10_oneSaleBehind_62 : decode cX10_oneSaleBehind 62 = .ok (.iload_n 2, 1) := by decide +kernel
theorem dX10_oneSaleBehind_63 : decode cX10_oneSaleBehind 63 = .ok (.ireturn, 1) := by decide +kernel
theorem dX11_init_0 : decode cX11_init 0 = .ok (.aload_n 0, 1) := by decide +kernel
theorem dX11_init_1 : decode cX11_init 1 = .ok (.invokespecial 1, 3) := by decide +kernel
theorem dX11_init_4 : decode cX11_init 4 = .ok (.aload_n 0, 1) := by decide +kernel
theorem dX11_init_5 : decode cX11_init 5 = .ok (.new 7, 3) := by decide +kernel
theorem dX11_init_8 : decode cX11_init 8 = .ok (.dup, 1) := by decide +kernel
theorem dX11_init_9 : decode cX11_init 9 = .ok (.invokespecial 9, 3) := by decide +kernel
theorem dX11_init_12 : decode cX11_init 12 = .ok (.putfield 10, 3) := by decide +kernel
theorem dX11_init_15 : decode cX11_init 15 = .ok (.aload_n 0, 1) := by decide +kernel
theorem dX11_init_16 : decode cX11_init 16 = .ok (.new 7, 3) := by decide +kernel
theorem dX11_init_19 : decode cX11_init 19 = .ok (.dup, 1) := by decide +kernel
theorem dX11_init_20 : decode cX11_init 20 = .ok (.invokespecial 9, 3) := by decide +kernel
theorem dX11_init_23 : decode cX11_init 23 = .ok (.putfield 16, 3) := by decide +kernel
theorem dX11_init_26 : decode cX11_init 26 = .ok (.aload_n 0, 1) := by decide +kernel
theorem dX11_init_27 : decode cX11_init 27 = .ok (.new 7, 3) := by decide +kernel
theorem dX11_init_30 : decode cX11_init 30 = .ok (.dup, 1) := by decide +kernel
theorem dX11_init_31 : decode cX11_init 31 = .ok (.invokespecial 9, 3) := by decide +kernel
theorem dX11_init_34 : decode cX11_init 34 = .ok (.putfield 19, 3) := by decide +kernel
theorem dX11_init_37 : decode cX11_init 37 = .ok (.aload_n 0, 1) := by decide +kernel
theorem dX11_init_38 : decode cX11_init 38 = .ok (.new 22, 3) := by decide +kernel
theorem dX11_init_41 : decode cX11_init 41 = .ok (.dup, 1) := by decide +kernel
theorem dX11_init_42 : decode cX11_init 42 = .ok (.invokespecial 24, 3) := by decide +kernel
theorem dX11_init_45 : decode cX11_init 45 = .ok (.putfield 25, 3) := by decide +kernel
theorem dX11_init_48 : decode cX11_init 48 = .ok (.aload_n 0, 1) := by decide +kernel
theorem dX11_init_49 : decode cX11_init 49 = .ok (.new 22, 3) := by decide +kernel
theorem dX11_init_52 : decode cX11_init 52 = .ok (.dup, 1) := by decide +kernel
theorem dX11_init_53 : decode cX11_init 53 = .ok (.invokespecial 24, 3) := by decide +kernel
theorem dX11_init_56 : decode cX11_init 56 = .ok (.putfield 29, 3) := by decide +kernel
theorem dX11_init_59 : decode cX11_init 59 = .ok (.aload_n 0, 1) := by decide +kernel
theorem dX11_init_60 : decode cX11_init 60 = .ok (.new 32, 3) := by decide +kernel
theorem dX11_init_63 : decode cX11_init 63 = .ok (.dup, 1) := by decide +kernel
theorem dX11_init_64 : decode cX11_init 64 = .ok (.invokespecial 34, 3) := by decide +kernel
theorem dX11_init_67 : decode cX11_init 67 = .ok (.putfield 35, 3) := by decide +kernel
theorem dX11_init_70 : decode cX11_init 70 = .ok (.aload_n 0, 1) := by decide +kernel
theorem dX11_init_71 : decode cX11_init 71 = .ok (.bipush 8, 2) := by decide +kernel
theorem dX11_init_73 : decode cX11_init 73 = .ok (.newarray .int, 2) := by decide +kernel
theorem dX11_init_75 : decode cX11_init 75 = .ok (.putfield 39, 3) := by decide +kernel
theorem dX11_init_78 : decode cX11_init 78 = .ok (.aload_n 0, 1) := by decide +kernel
theorem dX11_init_79 : decode cX11_init 79 = .ok (.bipush 7, 2) := by decide +kernel
theorem dX11_init_81 : decode cX11_init 81 = .ok (.newarray .int, 2) := by decide +kernel
theorem dX11_init_83 : decode cX11_init 83 = .ok (.putfield 43, 3) := by decide +kernel
theorem dX11_init_86 : decode cX11_init 86 = .ok (.return_, 1) := by decide +kernel
theorem dX11_feed_0 : decode cX11_feed 0 = .ok (.iload_n 1, 1) := by decide +kernel
theorem dX11_feed_1 : decode cX11_feed 1 = .ok (.ifCond .ge 10, 3) := by decide +kernel
theorem dX11_feed_4 : decode cX11_feed 4 = .ok (.aload_n 0, 1) := by decide +kernel
theorem dX11_feed_5 : decode cX11_feed 5 = .ok (.bipush (-4), 2) := by decide +kernel
theorem dX11_feed_7 : decode cX11_feed 7 = .ok (.invokevirtual 46, 3) := by decide +kernel
theorem dX11_feed_10 : decode cX11_feed 10 = .ok (.ireturn, 1) := by decide +kernel
theorem dX11_feed_11 : decode cX11_feed 11 = .ok (.iload_n 1, 1) := by decide +kernel
theorem dX11_feed_12 : decode cX11_feed 12 = .ok (.sipush 255, 3) := by decide +kernel
theorem dX11_feed_15 : decode cX11_feed 15 = .ok (.if_icmp .gt 13, 3) := by decide +kernel
theorem dX11_feed_18 : decode cX11_feed 18 = .ok (.aload_n 0, 1) := by decide +kernel
theorem dX11_feed_19 : decode cX11_feed 19 = .ok (.getfield 35, 3) := by decide +kernel
theorem dX11_feed_22 : decode cX11_feed 22 = .ok (.invokevirtual 50, 3) := by decide +kernel
theorem dX11_feed_25 : decode cX11_feed 25 = .ok (.ifCond .eq 10, 3) := by decide +kernel
theorem dX11_feed_28 : decode cX11_feed 28 = .ok (.aload_n 0, 1) := by decide +kernel
theorem dX11_feed_29 : decode cX11_feed 29 = .ok (.bipush (-6), 2) := by decide +kernel
theorem dX11_feed_31 : decode cX11_feed 31 = .ok (.invokevirtual 46, 3) := by decide +kernel
theorem dX11_feed_34 : decode cX11_feed 34 = .ok (.ireturn, 1) := by decide +kernel
theorem dX11_feed_35 : decode cX11_feed 35 = .ok (.aload_n 0, 1) := by decide +kernel
theorem dX11_feed_36 : decode cX11_feed 36 = .ok (.getfield 35, 3) := by decide +kernel
theorem dX11_feed_39 : decode cX11_feed 39 = .ok (.iload_n 1, 1) := by decide +kernel
theorem dX11_feed_40 : decode cX11_feed 40 = .ok (.invokevirtual 54, 3) := by decide +kernel
theorem dX11_feed_43 : decode cX11_feed 43 = .ok (.aload_n 0, 1) := by decide +kernel
theorem dX11_feed_44 : decode cX11_feed 44 = .ok (.getfield 35, 3) := by decide +kernel
theorem dX11_feed_47 : decode cX11_feed 47 = .ok (.getfield 58, 3) := by decide +kernel
theorem dX11_feed_50 : decode cX11_feed 50 = .ok (.ireturn, 1) := by decide +kernel
theorem dX11_mountain_0 : decode cX11_mountain 0 = .ok (.aload_n 0, 1) := by decide +kernel
theorem dX11_mountain_1 : decode cX11_mountain 1 = .ok (.getfield 16, 3) := by decide +kernel
theorem dX11_mountain_4 : decode cX11_mountain 4 = .ok (.aload_n 0, 1) := by decide +kernel
theorem dX11_mountain_5 : decode cX11_mountain 5 = .ok (.getfield 10, 3) := by decide +kernel
theorem dX11_mountain_8 : decode cX11_mountain 8 = .ok (.invokevirtual 62, 3) := by decide +kernel
theorem dX11_mountain_11 : decode cX11_mountain 11 = .ok (.aload_n 0, 1) := by decide +kernel
theorem dX11_mountain_12 : decode cX11_mountain 12 = .ok (.getfield 35, 3) := by decide +kernel
theorem dX11_mountain_15 : decode cX11_mountain 15 = .ok (.aload_n 0, 1) := by decide +kernel
theorem dX11_mountain_16 : decode cX11_mountain 16 = .ok (.getfield 16, 3) := by decide +kernel
theorem dX11_mountain_19 : decode cX11_mountain 19 = .ok (.invokevirtual 66, 3) := by decide +kernel
theorem dX11_mountain_22 : decode cX11_mountain 22 = .ok (.istore_n 1, 1) := by decide +kernel
theorem dX11_mountain_23 : decode cX11_mountain 23 = .ok (.aload_n 0, 1) := by decide +kernel
theorem dX11_mountain_24 : decode cX11_mountain 24 = .ok (.getfield 35, 3) := by decide +kernel
theorem dX11_mountain_27 : decode cX11_mountain 27 = .ok (.iconst 0, 1) := by decide +kernel
theorem dX11_mountain_28 : decode cX11_mountain 28 = .ok (.putfield 58, 3) := by decide +kernel
theorem dX11_mountain_31 : decode cX11_mountain 31 = .ok (.iload_n 1, 1) := by decide +kernel
theorem dX11_mountain_32 : decode cX11_mountain 32 = .ok (.ifCond .le 14, 3) := by decide +kernel
theorem dX11_mountain_35 : decode cX11_mountain 35 = .ok (.aload_n 0, 1) := by decide +kernel
theorem dX11_mountain_36 : decode cX11_mountain 36 = .ok (.getfield 10, 3) := by decide +kernel
theorem dX11_mountain_39 : decode cX11_mountain 39 = .ok (.aload_n 0, 1) := by decide +kernel
theorem dX11_mountain_40 : decode cX11_mountain 40 = .ok (.getfield 16, 3) := by decide +kernel
theorem dX11_mountain_43 : decode cX11_mountain 43 = .ok (.invokevirtual 62, 3) := by decide +kernel
theorem dX11_mountain_46 : decode cX11_mountain 46 = .ok (.iload_n 1, 1) := by decide +kernel
theorem dX11_mountain_47 : decode cX11_mountain 47 = .ok (.ireturn, 1) := by decide +kernel
theorem dX11_house_0 : decode cX11_house 0 = .ok (.aload_n 0, 1) := by decide +kernel
theorem dX11_house_1 : decode cX11_house 1 = .ok (.getfield 10, 3) := by decide +kernel
theorem dX11_house_4 : decode cX11_house 4 = .ok (.iload_n 1, 1) := by decide +kernel
theorem dX11_house_5 : decode cX11_house 5 = .ok (.invokevirtual 70, 3) := by decide +kernel
theorem dX11_house_8 : decode cX11_house 8 = .ok (.ifCond .ne 9, 3) := by decide +kernel
theorem dX11_house_11 : decode cX11_house 11 = .ok (.aload_n 0, 1) := by decide +kernel
theorem dX11_house_12 : decode cX11_house 12 = .ok (.iconst (-1), 1) := by decide +kernel
theorem dX11_house_13 : decode cX11_house 13 = .ok (.invokevirtual 46, 3) := by decide +kernel
theorem dX11_house_16 : decode cX11_house 16 = .ok (.ireturn, 1) := by decide +kernel
theorem dX11_house_17 : decode cX11_house 17 = .ok (.aload_n 0, 1) := by decide +kernel
theorem dX11_house_18 : decode cX11_house 18 = .ok (.getfield 10, 3) := by decide +kernel
theorem dX11_house_21 : decode cX11_house 21 = .ok (.getfield 74, 3) := by decide +kernel
theorem dX11_house_24 : decode cX11_house 24 = .ok (.iload_n 1, 1) := by decide +kernel
theorem dX11_house_25 : decode cX11_house 25 = .ok (.aaload, 1) := by decide +kernel
theorem dX11_house_26 : decode cX11_house 26 = .ok (.astore_n 3, 1) := by decide +kernel
theorem dX11_house_27 : decode cX11_house 27 = .ok (.iload_n 2, 1) := by decide +kernel
theorem dX11_house_28 : decode cX11_house 28 = .ok (.tableswitch 111 0 9 #[56, 61, 66, 71, 76, 81, 86, 91, 96, 101], 56) := by decide +kernel
theorem dX11_house_84 : decode cX11_house 84 = .ok (.aload_n 3, 1) := by decide +kernel
theorem dX11_house_85 : decode cX11_house 85 = .ok (.invokevirtual 78, 3) := by decide +kernel
theorem dX11_house_88 : decode cX11_house 88 = .ok (.ireturn, 1) := by decide +kernel
theorem dX11_house_89 : decode cX11_house 89 = .ok (.aload_n 3, 1) := by decide +kernel
theorem dX11_house_90 : decode cX11_house 90 = .ok (.getfield 84, 3) := by decide +kernel
theorem dX11_house_93 : decode cX11_house 93 = .ok (.ireturn, 1) := by decide +kernel
theorem dX11_house_94 : decode cX11_house 94 = .ok (.aload_n 3, 1) := by decide +kernel
theorem dX11_house_95 : decode cX11_house 95 = .ok (.getfield 87, 3) := by decide +kernel
theorem dX11_house_98 : decode cX11_house 98 = .ok (.ireturn, 1) := by decide +kernel
theorem dX11_house_99 : decode cX11_house 99 = .ok (.aload_n 3, 1) := by decide +kernel
theorem dX11_house_100 : decode cX11_house 100 = .ok (.invokevirtual 90, 3) := by decide +kernel
theorem dX11_house_103 : decode cX11_house 103 = .ok (.ireturn, 1) := by decide +kernel
theorem dX11_house_104 : decode cX11_house 104 = .ok (.aload_n 3, 1) := by decide +kernel
theorem dX11_house_105 : decode cX11_house 105 = .ok (.invokevirtual 93, 3) := by decide +kernel
theorem dX11_house_108 : decode cX11_house 108 = .ok (.ireturn, 1) := by decide +kernel
theorem dX11_house_109 : decode cX11_house 109 = .ok (.aload_n 3, 1) := by decide +kernel
theorem dX11_house_110 : decode cX11_house 110 = .ok (.getfield 96, 3) := by decide +kernel
theorem dX11_house_113 : decode cX11_house 113 = .ok (.ireturn, 1) := by decide +kernel
theorem dX11_house_114 : decode cX11_house 114 = .ok (.aload_n 3, 1) := by decide +kernel
theorem dX11_house_115 : decode cX11_house 115 = .ok (.getfield 99, 3) := by decide +kernel
theorem dX11_house_118 : decode cX11_house 118 = .ok (.ireturn, 1) := by decide +kernel
theorem dX11_house_119 : decode cX11_house 119 = .ok (.aload_n 3, 1) := by decide +kernel
theorem dX11_house_120 : decode cX11_house 120 = .ok (.getfield 102, 3) := by decide +kernel
theorem dX11_house_123 : decode cX11_house 123 = .ok (.ireturn, 1) := by decide +kernel
theorem dX11_house_124 : decode cX11_house 124 = .ok (.aload_n 3, 1) := by decide +kernel
theorem dX11_house_125 : decode cX11_house 125 = .ok (.getfield 105, 3) := by decide +kernel
theorem dX11_house_128 : decode cX11_house 128 = .ok (.ireturn, 1) := by decide +kernel
theorem dX11_house_129 : decode cX11_house 129 = .ok (.aload_n 0, 1) := by decide +kernel
theorem dX11_house_130 : decode cX11_house 130 = .ok (.getfield 10, 3) := by decide +kernel
theorem dX11_house_133 : decode cX11_house 133 = .ok (.getfield 108, 3) := by decide +kernel
theorem dX11_house_136 : decode cX11_house 136 = .ok (.iload_n 1, 1) := by decide +kernel
theorem dX11_house_137 : decode cX11_house 137 = .ok (.iaload, 1) := by decide +kernel
theorem dX11_house_138 : decode cX11_house 138 = .ok (.ireturn, 1) := by decide +kernel
theorem dX11_house_139 : decode cX11_house 139 = .ok (.aload_n 0, 1) := by decide +kernel
theorem dX11_house_140 : decode cX11_house 140 = .ok (.bipush (-2), 2) := by decide +kernel
theorem dX11_house_142 : decode cX11_house 142 = .ok (.invokevirtual 46, 3) := by decide +kernel
theorem dX11_house_145 : decode cX11_house 145 = .ok (.ireturn, 1) := by decide +kernel
theorem dX11_store_0 : decode cX11_store 0 = .ok (.aload_n 0, 1) := by decide +kernel
theorem dX11_store_1 : decode cX11_store 1 = .ok (.getfield 10, 3) := by decide +kernel
theorem dX11_store_4 : decode cX11_store 4 = .ok (.iload_n 1, 1) := by decide +kernel
theorem dX11_store_5 : decode cX11_store 5 = .ok (.invokevirtual 70, 3) := by decide +kernel
theorem dX11_store_8 : decode cX11_store 8 = .ok (.ifCond .eq 10, 3) := by decide +kernel
theorem dX11_store_11 : decode cX11_store 11 = .ok (.iload_n 2, 1) := by decide +kernel
theorem dX11_store_12 : decode cX11_store 12 = .ok (.invokestatic 111, 3) := by decide +kernel
theorem dX11_store_15 : decode cX11_store 15 = .ok (.ifCond .ne 9, 3) := by decide +kernel
theorem dX11_store_18 : decode cX11_store 18 = .ok (.aload_n 0, 1) := by decide +kernel
theorem dX11_store_19 : decode cX11_store 19 = .ok (.iconst (-1), 1) := by decide +kernel
theorem dX11_store_20 : decode cX11_store 20 = .ok (.invokevirtual 46, 3) := by decide +kernel
theorem dX11_store_23 : decode cX11_store 23 = .ok (.ireturn, 1) := by decide +kernel
theorem dX11_store_24 : decode cX11_store 24 = .ok (.aload_n 0, 1) := by decide +kernel
theorem dX11_store_25 : decode cX11_store 25 = .ok (.getfield 10, 3) := by decide +kernel
theorem dX11_store_28 : decode cX11_store 28 = .ok (.iload_n 1, 1) := by decide +kernel
theorem dX11_store_29 : decode cX11_store 29 = .ok (.iload_n 2, 1) := by decide +kernel
theorem dX11_store_30 : decode cX11_store 30 = .ok (.invokevirtual 114, 3) := by decide +kernel
theorem dX11_store_33 : decode cX11_store 33 = .ok (.ireturn, 1) := by decide +kernel
theorem dX11_price_0 : decode cX11_price 0 = .ok (.iload_n 1, 1) := by decide +kernel
theorem dX11_price_1 : decode cX11_price 1 = .ok (.invokestatic 111, 3) := by decide +kernel
theorem dX11_price_4 : decode cX11_price 4 = .ok (.ifCond .ne 9, 3) := by decide +kernel
theorem dX11_price_7 : decode cX11_price 7 = .ok (.aload_n 0, 1) := by decide +kernel
theorem dX11_price_8 : decode cX11_price 8 = .ok (.iconst (-1), 1) := by decide +kernel
theorem dX11_price_9 : decode cX11_price 9 = .ok (.invokevirtual 46, 3) := by decide +kernel
theorem dX11_price_12 : decode cX11_price 12 = .ok (.ireturn, 1) := by decide +kernel
theorem dX11_price_13 : decode cX11_price 13 = .ok (.iload_n 2, 1) := by decide +kernel
theorem dX11_price_14 : decode cX11_price 14 = .ok (.iconst 1, 1) := by decide +kernel
theorem dX11_price_15 : decode cX11_price 15 = .ok (.if_icmp .ge 10, 3) := by decide +kernel
theorem dX11_price_18 : decode cX11_price 18 = .ok (.aload_n 0, 1) := by decide +kernel
theorem dX11_price_19 : decode cX11_price 19 = .ok (.bipush (-4), 2) := by decide +kernel
theorem dX11_price_21 : decode cX11_price 21 = .ok (.invokevirtual 46, 3) := by decide +kernel
theorem dX11_price_24 : decode cX11_price 24 = .ok (.ireturn, 1) := by decide +kernel
theorem dX11_price_25 : decode cX11_price 25 = .ok (.iload_n 2, 1) := by decide +kernel
theorem dX11_price_26 : decode cX11_price 26 = .ok (.bipush 9, 2) := by decide +kernel
theorem dX11_price_28 : decode cX11_price 28 = .ok (.if_icmp .le 10, 3) := by decide +kernel
theorem dX11_price_31 : decode cX11_price 31 = .ok (.aload_n 0, 1) := by decide +kernel
theorem dX11_price_32 : decode cX11_price 32 = .ok (.bipush (-6), 2) := by decide +kernel
theorem dX11_price_34 : decode cX11_price 34 = .ok (.invokevirtual 46, 3) := by decide +kernel
theorem dX11_price_37 : decode cX11_price 37 = .ok (.ireturn, 1) := by decide +kernel
theorem dX11_price_38 : decode cX11_price 38 = .ok (.aload_n 0, 1) := by decide +kernel
theorem dX11_price_39 : decode cX11_price 39 = .ok (.getfield 10, 3) := by decide +kernel
theorem dX11_price_42 : decode cX11_price 42 = .ok (.getfield 118, 3) := by decide +kernel
theorem dX11_price_45 : decode cX11_price 45 = .ok (.iload_n 1, 1) := by decide +kernel
theorem dX11_price_46 : decode cX11_price 46 = .ok (.iaload, 1) := by decide +kernel
theorem dX11_price_47 : decode cX11_price 47 = .ok (.istore_n 3, 1) := by decide +kernel
theorem dX11_price_48 : decode cX11_price 48 = .ok (.aload_n 0, 1) := by decide +kernel
theorem dX11_price_49 : decode cX11_price 49 = .ok (.getfield 10, 3) := by decide +kernel
theorem dX11_price_52 : decode cX11_price 52 = .ok (.getfield 118, 3) := by decide +kernel
theorem dX11_price_55 : decode cX11_price 55 = .ok (.iload_n 1, 1) := by decide +kernel
theorem dX11_price_56 : decode cX11_price 56 = .ok (.iload_n 2, 1) := by decide +kernel
theorem dX11_price_57 : decode cX11_price 57 = .ok (.iastore, 1) := by decide +kernel
theorem dX11_price_58 : decode cX11_price 58 = .ok (.iload_n 3, 1) := by decide +kernel
theorem dX11_price_59 : decode cX11_price 59 = .ok (.ireturn, 1) := by decide +kernel
theorem dX11_law_0 : decode cX11_law 0 = .ok (.iload_n 1, 1) := by decide +kernel
theorem dX11_law_1 : decode cX11_law 1 = .ok (.invokestatic 121, 3) := by decide +kernel
theorem dX11_law_4 : decode cX11_law 4 = .ok (.ifCond .ne 10, 3) := by decide +kernel
theorem dX11_law_7 : decode cX11_law 7 = .ok (.aload_n 0, 1) := by decide +kernel
theorem dX11_law_8 : decode cX11_law 8 = .ok (.bipush (-2), 2) := by decide +kernel
theorem dX11_law_10 : decode cX11_law 10 = .ok (.invokevirtual 46, 3) := by decide +kernel
theorem dX11_law_13 : decode cX11_law 13 = .ok (.ireturn, 1) := by decide +kernel
theorem dX11_law_14 : decode cX11_law 14 = .ok (.aload_n 0, 1) := by decide +kernel
theorem dX11_law_15 : decode cX11_law 15 = .ok (.getfield 10, 3) := by decide +kernel
theorem dX11_law_18 : decode cX11_law 18 = .ok (.getfield 124, 3) := by decide +kernel
theorem dX11_law_21 : decode cX11_law 21 = .ok (.istore_n 2, 1) := by decide +kernel
theorem dX11_law_22 : decode cX11_law 22 = .ok (.aload_n 0, 1) := by decide +kernel
theorem dX11_law_23 : decode cX11_law 23 = .ok (.getfield 10, 3) := by decide +kernel
theorem dX11_law_26 : decode cX11_law 26 = .ok (.iload_n 1, 1) := by decide +kernel
theorem dX11_law_27 : decode cX11_law 27 = .ok (.putfield 124, 3) := by decide +kernel
theorem dX11_law_30 : decode cX11_law 30 = .ok (.iload_n 2, 1) := by decide +kernel
theorem dX11_law_31 : decode cX11_law 31 = .ok (.ireturn, 1) := by decide +kernel
theorem dX11_lawful_0 : decode cX11_lawful 0 = .ok (.aload_n 0, 1) := by decide +kernel
theorem dX11_lawful_1 : decode cX11_lawful 1 = .ok (.getfield 10, 3) := by decide +kernel
theorem dX11_lawful_4 : decode cX11_lawful 4 = .ok (.iload_n 1, 1) := by decide +kernel
theorem dX11_lawful_5 : decode cX11_lawful 5 = .ok (.iload_n 2, 1) := by decide +kernel
theorem dX11_lawful_6 : decode cX11_lawful 6 = .ok (.invokevirtual 127, 3) := by decide +kernel
theorem dX11_lawful_9 : decode cX11_lawful 9 = .ok (.ifCond .ne 9, 3) := by decide +kernel
theorem dX11_lawful_12 : decode cX11_lawful 12 = .ok (.aload_n 0, 1) := by decide +kernel
theorem dX11_lawful_13 : decode cX11_lawful 13 = .ok (.iconst (-1), 1) := by decide +kernel
theorem dX11_lawful_14 : decode cX11_lawful 14 = .ok (.invokevirtual 46, 3) := by decide +kernel
theorem dX11_lawful_17 : decode cX11_lawful 17 = .ok (.ireturn, 1) := by decide +kernel
theorem dX11_lawful_18 : decode cX11_lawful 18 = .ok (.aload_n 0, 1) := by decide +kernel
theorem dX11_lawful_19 : decode cX11_lawful 19 = .ok (.getfield 10, 3) := by decide +kernel
theorem dX11_lawful_22 : decode cX11_lawful 22 = .ok (.iload_n 1, 1) := by decide +kernel
theorem dX11_lawful_23 : decode cX11_lawful 23 = .ok (.iload_n 2, 1) := by decide +kernel
theorem dX11_lawful_24 : decode cX11_lawful 24 = .ok (.invokevirtual 131, 3) := by decide +kernel
theorem dX11_lawful_27 : decode cX11_lawful 27 = .ok (.ifCond .eq 7, 3) := by decide +kernel
theorem dX11_lawful_30 : decode cX11_lawful 30 = .ok (.iconst 1, 1) := by decide +kernel
theorem dX11_lawful_31 : decode cX11_lawful 31 = .ok (.goto 4, 3) := by decide +kernel
theorem dX11_lawful_34 : decode cX11_lawful 34 = .ok (.iconst 0, 1) := by decide +kernel
theorem dX11_lawful_35 : decode cX11_lawful 35 = .ok (.ireturn, 1) := by decide +kernel
theorem dX11_count_0 : decode cX11_count 0 = .ok (.iload_n 1, 1) := by decide +kernel
theorem dX11_count_1 : decode cX11_count 1 = .ok (.tableswitch 183 0 16 #[83, 91, 99, 107, 118, 129, 140, 148, 153, 183, 183, 173, 173, 173, 173, 173, 173], 83) := by decide +kernel
theorem dX11_count_84 : decode cX11_count 84 = .ok (.aload_n 0, 1) := by decide +kernel
theorem dX11_count_85 : decode cX11_count 85 = .ok (.getfield 10, 3) := by decide +kernel
theorem dX11_count_88 : decode cX11_count 88 = .ok (.getfield 134, 3) := by decide +kernel
theorem dX11_count_91 : decode cX11_count 91 = .ok (.ireturn, 1) := by decide +kernel
theorem dX11_count_92 : decode cX11_count 92 = .ok (.aload_n 0, 1) := by decide +kernel
theorem dX11_count_93 : decode cX11_count 93 = .ok (.getfield 10, 3) := by decide +kernel
theorem dX11_count_96 : decode cX11_count 96 = .ok (.getfield 135, 3) := by decide +kernel
theorem dX11_count_99 : decode cX11_count 99 = .ok (.ireturn, 1) := by decide +kernel
theorem dX11_count_100 : decode cX11_count 100 = .ok (.aload_n 0, 1) := by decide +kernel
theorem dX11_count_101 : decode cX11_count 101 = .ok (.getfield 10, 3) := by decide +kernel
theorem dX11_count_104 : decode cX11_count 104 = .ok (.getfield 124, 3) := by decide +kernel
theorem dX11_count_107 : decode cX11_count 107 = .ok (.ireturn, 1) := by decide +kernel
theorem dX11_count_108 : decode cX11_count 108 = .ok (.aload_n 0, 1) := by decide +kernel
theorem dX11_count_109 : decode cX11_count 109 = .ok (.getfield 10, 3) := by decide +kernel
theorem dX11_count_112 : decode cX11_count 112 = .ok (.getfield 108, 3) := by decide +kernel
theorem dX11_count_115 : decode cX11_count 115 = .ok (.invokestatic 138, 3) := by decide +kernel
theorem dX11_count_118 : decode cX11_count 118 = .ok (.ireturn, 1) := by decide +kernel
theorem dX11_count_119 : decode cX11_count 119 = .ok (.aload_n 0, 1) := by decide +kernel
theorem dX11_count_120 : decode cX11_count 120 = .ok (.getfield 10, 3) := by decide +kernel
theorem dX11_count_123 : decode cX11_count 123 = .ok (.getfield 142, 3) := by decide +kernel
theorem dX11_count_126 : decode cX11_count 126 = .ok (.invokestatic 138, 3) := by decide +kernel
theorem dX11_count_129 : decode cX11_count 129 = .ok (.ireturn, 1) := by decide +kernel
theorem dX11_count_130 : decode cX11_count 130 = .ok (.aload_n 0, 1) := by decide +kernel
theorem dX11_count_131 : decode cX11_count 131 = .ok (.getfield 10, 3) := by decide +kernel
theorem dX11_count_134 : decode cX11_count 134 = .ok (.getfield 145, 3) := by decide +kernel
theorem dX11_count_137 : decode cX11_count 137 = .ok (.invokevirtual 149, 3) := by decide +kernel
theorem dX11_count_140 : decode cX11_count 140 = .ok (.ireturn, 1) := by decide +kernel
theorem dX11_count_141 : decode cX11_count 141 = .ok (.aload_n 0, 1) := by decide +kernel
theorem dX11_count_142 : decode cX11_count 142 = .ok (.getfield 35, 3) := by decide +kernel
theorem dX11_count_145 : decode cX11_count 145 = .ok (.getfield 58, 3) := by decide +kernel
theorem dX11_count_148 : decode cX11_count 148 = .ok (.ireturn, 1) := by decide +kernel
theorem dX11_count_149 : decode cX11_count 149 = .ok (.aload_n 0, 1) := by decide +kernel
theorem dX11_count_150 : decode cX11_count 150 = .ok (.getfield 154, 3) := by decide +kernel
theorem dX11_count_153 : decode cX11_count 153 = .ok (.ireturn, 1) := by decide +kernel
theorem dX11_count_154 : decode cX11_count 154 = .ok (.iconst 0, 1) := by decide +kernel
theorem dX11_count_155 : decode cX11_count 155 = .ok (.aload_n 0, 1) := by decide +kernel
theorem dX11_count_156 : decode cX11_count 156 = .ok (.getfield 10, 3) := by decide +kernel
theorem dX11_count_159 : decode cX11_count 159 = .ok (.getfield 157, 3) := by decide +kernel
theorem dX11_count_162 : decode cX11_count 162 = .ok (.aload_n 0, 1) := by decide +kernel
theorem dX11_count_163 : decode cX11_count 163 = .ok (.getfield 10, 3) := by decide +kernel
theorem dX11_count_166 : decode cX11_count 166 = .ok (.getfield 135, 3) := by decide +kernel
theorem dX11_count_169 : decode cX11_count 169 = .ok (.isub, 1) := by decide +kernel
theorem dX11_count_170 : decode cX11_count 170 = .ok (.invokestatic 160, 3) := by decide +kernel
theorem dX11_count_173 : decode cX11_count 173 = .ok (.ireturn, 1) := by decide +kernel
theorem dX11_count_174 : decode cX11_count 174 = .ok (.aload_n 0, 1) := by decide +kernel
theorem dX11_count_175 : decode cX11_count 175 = .ok (.getfield 43, 3) := by decide +kernel
theorem dX11_count_178 : decode cX11_count 178 = .ok (.iload_n 1, 1) := by decide +kernel
theorem dX11_count_179 : decode cX11_count 179 = .ok (.bipush 10, 2) := by decide +kernel
theorem dX11_count_181 : decode cX11_count 181 = .ok (.isub, 1) := by decide +kernel
theorem dX11_count_182 : decode cX11_count 182 = .ok (.iaload, 1) := by decide +kernel
theorem dX11_count_183 : decode cX11_count 183 = .ok (.ireturn, 1) := by decide +kernel
theorem dX11_count_184 : decode cX11_count 184 = .ok (.bipush (-9), 2) := by decide +kernel
theorem dX11_count_186 : decode cX11_count 186 = .ok (.ireturn, 1) := by decide +kernel
theorem dX11_sale_0 : decode cX11_sale 0 = .ok (.aload_n 0, 1) := by decide +kernel
theorem dX11_sale_1 : decode cX11_sale 1 = .ok (.getfield 10, 3) := by decide +kernel
theorem dX11_sale_4 : decode cX11_sale 4 = .ok (.iload_n 1, 1) := by decide +kernel
theorem dX11_sale_5 : decode cX11_sale 5 = .ok (.iload_n 2, 1) := by decide +kernel
theorem dX11_sale_6 : decode cX11_sale 6 = .ok (.invokevirtual 127, 3) := by decide +kernel
theorem dX11_sale_9 : decode cX11_sale 9 = .ok (.ifCond .eq 10, 3) := by decide +kernel
theorem dX11_sale_12 : decode cX11_sale 12 = .ok (.iload_n 3, 1) := by decide +kernel
theorem dX11_sale_13 : decode cX11_sale 13 = .ok (.invokestatic 111, 3) := by decide +kernel
theorem dX11_sale_16 : decode cX11_sale 16 = .ok (.ifCond .ne 9, 3) := by decide +kernel
theorem dX11_sale_19 : decode cX11_sale 19 = .ok (.aload_n 0, 1) := by decide +kernel
theorem dX11_sale_20 : decode cX11_sale 20 = .ok (.iconst (-1), 1) := by decide +kernel
theorem dX11_sale_21 : decode cX11_sale 21 = .ok (.invokevirtual 46, 3) := by decide +kernel
theorem dX11_sale_24 : decode cX11_sale 24 = .ok (.ireturn, 1) := by decide +kernel
theorem dX11_sale_25 : decode cX11_sale 25 = .ok (.aload_n 0, 1) := by decide +kernel
theorem dX11_sale_26 : decode cX11_sale 26 = .ok (.getfield 10, 3) := by decide +kernel
theorem dX11_sale_29 : decode cX11_sale 29 = .ok (.iload_n 1, 1) := by decide +kernel
theorem dX11_sale_30 : decode cX11_sale 30 = .ok (.iload_n 2, 1) := by decide +kernel
theorem dX11_sale_31 : decode cX11_sale 31 = .ok (.iload_n 3, 1) := by decide +kernel
theorem dX11_sale_32 : decode cX11_sale 32 = .ok (.invokevirtual 165, 3) := by decide +kernel
theorem dX11_sale_35 : decode cX11_sale 35 = .ok (.ifCond .ne 10, 3) := by decide +kernel
theorem dX11_sale_38 : decode cX11_sale 38 = .ok (.aload_n 0, 1) := by decide +kernel
theorem dX11_sale_39 : decode cX11_sale 39 = .ok (.bipush (-3), 2) := by decide +kernel
theorem dX11_sale_41 : decode cX11_sale 41 = .ok (.invokevirtual 46, 3) := by decide +kernel
theorem dX11_sale_44 : decode cX11_sale 44 = .ok (.ireturn, 1) := by decide +kernel
theorem dX11_sale_45 : decode cX11_sale 45 = .ok (.aload_n 0, 1) := by decide +kernel
theorem dX11_sale_46 : decode cX11_sale 46 = .ok (.getfield 10, 3) := by decide +kernel
theorem dX11_sale_49 : decode cX11_sale 49 = .ok (.getfield 108, 3) := by decide +kernel
theorem dX11_sale_52 : decode cX11_sale 52 = .ok (.iload_n 2, 1) := by decide +kernel
theorem dX11_sale_53 : decode cX11_sale 53 = .ok (.iaload, 1) := by decide +kernel
theorem dX11_sale_54 : decode cX11_sale 54 = .ok (.ireturn, 1) := by decide +kernel
theorem dX11_week_0 : decode cX11_week 0 = .ok (.aload_n 0, 1) := by decide +kernel
theorem dX11_week_1 : decode cX11_week 1 = .ok (.getfield 10, 3) := by decide +kernel
theorem dX11_week_4 : decode cX11_week 4 = .ok (.getfield 135, 3) := by decide +kernel
theorem dX11_week_7 : decode cX11_week 7 = .ok (.sipush 9999, 3) := by decide +kernel
theorem dX11_week_10 : decode cX11_week 10 = .ok (.if_icmp .lt 10, 3) := by decide +kernel
theorem dX11_week_13 : decode cX11_week 13 = .ok (.aload_n 0, 1) := by decide +kernel
theorem dX11_week_14 : decode cX11_week 14 = .ok (.bipush (-6), 2) := by decide +kernel
theorem dX11_week_16 : decode cX11_week 16 = .ok (.invokevirtual 46, 3) := by decide +kernel
theorem dX11_week_19 : decode cX11_week 19 = .ok (.ireturn, 1) := by decide +kernel
theorem dX11_week_20 : decode cX11_week 20 = .ok (.aload_n 0, 1) := by decide +kernel
theorem dX11_week_21 : decode cX11_week 21 = .ok (.getfield 25, 3) := by decide +kernel
theorem dX11_week_24 : decode cX11_week 24 = .ok (.invokevirtual 169, 3) := by decide +kernel
theorem dX11_week_27 : decode cX11_week 27 = .ok (.aload_n 0, 1) := by decide +kernel
theorem dX11_week_28 : decode cX11_week 28 = .ok (.getfield 10, 3) := by decide +kernel
theorem dX11_week_31 : decode cX11_week 31 = .ok (.aload_n 0, 1) := by decide +kernel
theorem dX11_week_32 : decode cX11_week 32 = .ok (.getfield 25, 3) := by decide +kernel
theorem dX11_week_35 : decode cX11_week 35 = .ok (.invokevirtual 172, 3) := by decide +kernel
theorem dX11_week_38 : decode cX11_week 38 = .ok (.aload_n 0, 1) := by decide +kernel
theorem dX11_week_39 : decode cX11_week 39 = .ok (.getfield 25, 3) := by decide +kernel
theorem dX11_week_42 : decode cX11_week 42 = .ok (.getfield 176, 3) := by decide +kernel
theorem dX11_week_45 : decode cX11_week 45 = .ok (.ireturn, 1) := by decide +kernel
theorem dX11_mule_0 : decode cX11_mule 0 = .ok (.aload_n 0, 1) := by decide +kernel
theorem dX11_mule_1 : decode cX11_mule 1 = .ok (.getfield 10, 3) := by decide +kernel
theorem dX11_mule_4 : decode cX11_mule 4 = .ok (.iload_n 1, 1) := by decide +kernel
theorem dX11_mule_5 : decode cX11_mule 5 = .ok (.iload_n 2, 1) := by decide +kernel
theorem dX11_mule_6 : decode cX11_mule 6 = .ok (.invokevirtual 127, 3) := by decide +kernel
theorem dX11_mule_9 : decode cX11_mule 9 = .ok (.ifCond .ne 9, 3) := by decide +kernel
theorem dX11_mule_12 : decode cX11_mule 12 = .ok (.aload_n 0, 1) := by decide +kernel
theorem dX11_mule_13 : decode cX11_mule 13 = .ok (.iconst (-1), 1) := by decide +kernel
theorem dX11_mule_14 : decode cX11_mule 14 = .ok (.invokevirtual 46, 3) := by decide +kernel
theorem dX11_mule_17 : decode cX11_mule 17 = .ok (.ireturn, 1) := by decide +kernel
theorem dX11_mule_18 : decode cX11_mule 18 = .ok (.iload_n 3, 1) := by decide +kernel
theorem dX11_mule_19 : decode cX11_mule 19 = .ok (.iconst 1, 1) := by decide +kernel
theorem dX11_mule_20 : decode cX11_mule 20 = .ok (.if_icmp .ge 10, 3) := by decide +kernel
theorem dX11_mule_23 : decode cX11_mule 23 = .ok (.aload_n 0, 1) := by decide +kernel
theorem dX11_mule_24 : decode cX11_mule 24 = .ok (.bipush (-4), 2) := by decide +kernel
theorem dX11_mule_26 : decode cX11_mule 26 = .ok (.invokevirtual 46, 3) := by decide +kernel
theorem dX11_mule_29 : decode cX11_mule 29 = .ok (.ireturn, 1) := by decide +kernel
theorem dX11_mule_30 : decode cX11_mule 30 = .ok (.aload_n 0, 1) := by decide +kernel
theorem dX11_mule_31 : decode cX11_mule 31 = .ok (.getfield 10, 3) := by decide +kernel
theorem dX11_mule_34 : decode cX11_mule 34 = .ok (.getfield 135, 3) := by decide +kernel
theorem dX11_mule_37 : decode cX11_mule 37 = .ok (.aload_n 0, 1) := by decide +kernel
theorem dX11_mule_38 : decode cX11_mule 38 = .ok (.getfield 10, 3) := by decide +kernel
theorem dX11_mule_41 : decode cX11_mule 41 = .ok (.getfield 157, 3) := by decide +kernel
theorem dX11_mule_44 : decode cX11_mule 44 = .ok (.if_icmp .ge 10, 3) := by decide +kernel
theorem dX11_mule_47 : decode cX11_mule 47 = .ok (.aload_n 0, 1) := by decide +kernel
theorem dX11_mule_48 : decode cX11_mule 48 = .ok (.bipush (-3), 2) := by decide +kernel
theorem dX11_mule_50 : decode cX11_mule 50 = .ok (.invokevirtual 46, 3) := by decide +kernel
theorem dX11_mule_53 : decode cX11_mule 53 = .ok (.ireturn, 1) := by decide +kernel
theorem dX11_mule_54 : decode cX11_mule 54 = .ok (.iload_n 3, 1) := by decide +kernel
theorem dX11_mule_55 : decode cX11_mule 55 = .ok (.aload_n 0, 1) := by decide +kernel
theorem dX11_mule_56 : decode cX11_mule 56 = .ok (.getfield 10, 3) := by decide +kernel
theorem dX11_mule_59 : decode cX11_mule 59 = .ok (.getfield 108, 3) := by decide +kernel
theorem dX11_mule_62 : decode cX11_mule 62 = .ok (.iload_n 1, 1) := by decide +kernel
theorem dX11_mule_63 : decode cX11_mule 63 = .ok (.iaload, 1) := by decide +kernel
theorem dX11_mule_64 : decode cX11_mule 64 = .ok (.if_icmp .gt 20, 3) := by decide +kernel
theorem dX11_mule_67 : decode cX11_mule 67 = .ok (.aload_n 0, 1) := by decide +kernel
theorem dX11_mule_68 : decode cX11_mule 68 = .ok (.getfield 10, 3) := by decide +kernel
theorem dX11_mule_71 : decode cX11_mule 71 = .ok (.getfield 108, 3) := by decide +kernel
theorem dX11_mule_74 : decode cX11_mule 74 = .ok (.iload_n 2, 1) := by decide +kernel
theorem dX11_mule_75 : decode cX11_mule 75 = .ok (.iaload, 1) := by decide +kernel
theorem dX11_mule_76 : decode cX11_mule 76 = .ok (.iload_n 3, 1) := by decide +kernel
theorem dX11_mule_77 : decode cX11_mule 77 = .ok (.iadd, 1) := by decide +kernel
theorem dX11_mule_78 : decode cX11_mule 78 = .ok (.sipush 9999, 3) := by decide +kernel
theorem dX11_mule_81 : decode cX11_mule 81 = .ok (.if_icmp .le 10, 3) := by decide +kernel
theorem dX11_mule_84 : decode cX11_mule 84 = .ok (.aload_n 0, 1) := by decide +kernel
theorem dX11_mule_85 : decode cX11_mule 85 = .ok (.bipush (-6), 2) := by decide +kernel
theorem dX11_mule_87 : decode cX11_mule 87 = .ok (.invokevirtual 46, 3) := by decide +kernel
theorem dX11_mule_90 : decode cX11_mule 90 = .ok (.ireturn, 1) := by decide +kernel
theorem dX11_mule_91 : decode cX11_mule 91 = .ok (.aload_n 0, 1) := by decide +kernel
theorem dX11_mule_92 : decode cX11_mule 92 = .ok (.getfield 10, 3) := by decide +kernel
theorem dX11_mule_95 : decode cX11_mule 95 = .ok (.getfield 108, 3) := by decide +kernel
theorem dX11_mule_98 : decode cX11_mule 98 = .ok (.iload_n 1, 1) := by decide +kernel
theorem dX11_mule_99 : decode cX11_mule 99 = .ok (.dup2, 1) := by decide +kernel
theorem dX11_mule_100 : decode cX11_mule 100 = .ok (.iaload, 1) := by decide +kernel
theorem dX11_mule_101 : decode cX11_mule 101 = .ok (.iload_n 3, 1) := by decide +kernel
theorem dX11_mule_102 : decode cX11_mule 102 = .ok (.isub, 1) := by decide +kernel
theorem dX11_mule_103 : decode cX11_mule 103 = .ok (.iastore, 1) := by decide +kernel
theorem dX11_mule_104 : decode cX11_mule 104 = .ok (.aload_n 0, 1) := by decide +kernel
theorem dX11_mule_105 : decode cX11_mule 105 = .ok (.getfield 10, 3) := by decide +kernel
theorem dX11_mule_108 : decode cX11_mule 108 = .ok (.getfield 108, 3) := by decide +kernel
theorem dX11_mule_111 : decode cX11_mule 111 = .ok (.iload_n 2, 1) := by decide +kernel
theorem dX11_mule_112 : decode cX11_mule 112 = .ok (.dup2, 1) := by decide +kernel
theorem dX11_mule_113 : decode cX11_mule 113 = .ok (.iaload, 1) := by decide +kernel
theorem dX11_mule_114 : decode cX11_mule 114 = .ok (.iload_n 3, 1) := by decide +kernel
theorem dX11_mule_115 : decode cX11_mule 115 = .ok (.iadd, 1) := by decide +kernel
theorem dX11_mule_116 : decode cX11_mule 116 = .ok (.iastore, 1) := by decide +kernel
theorem dX11_mule_117 : decode cX11_mule 117 = .ok (.aload_n 0, 1) := by decide +kernel
theorem dX11_mule_118 : decode cX11_mule 118 = .ok (.getfield 10, 3) := by decide +kernel
theorem dX11_mule_121 : decode cX11_mule 121 = .ok (.aload_n 0, 1) := by decide +kernel
theorem dX11_mule_122 : decode cX11_mule 122 = .ok (.getfield 10, 3) := by decide +kernel
theorem dX11_mule_125 : decode cX11_mule 125 = .ok (.getfield 135, 3) := by decide +kernel
theorem dX11_mule_128 : decode cX11_mule 128 = .ok (.bipush 52, 2) := by decide +kernel
theorem dX11_mule_130 : decode cX11_mule 130 = .ok (.iadd, 1) := by decide +kernel
theorem dX11_mule_131 : decode cX11_mule 131 = .ok (.putfield 157, 3) := by decide +kernel
theorem dX11_mule_134 : decode cX11_mule 134 = .ok (.aload_n 0, 1) := by decide +kernel
theorem dX11_mule_135 : decode cX11_mule 135 = .ok (.getfield 10, 3) := by decide +kernel
theorem dX11_mule_138 : decode cX11_mule 138 = .ok (.getfield 157, 3) := by decide +kernel
theorem dX11_mule_141 : decode cX11_mule 141 = .ok (.ireturn, 1) := by decide +kernel
theorem dX11_owe_0 : decode cX11_owe 0 = .ok (.aload_n 0, 1) := by decide +kernel
theorem dX11_owe_1 : decode cX11_owe 1 = .ok (.getfield 10, 3) := by decide +kernel
theorem dX11_owe_4 : decode cX11_owe 4 = .ok (.iload_n 1, 1) := by decide +kernel
theorem dX11_owe_5 : decode cX11_owe 5 = .ok (.iload_n 2, 1) := by decide +kernel
theorem dX11_owe_6 : decode cX11_owe 6 = .ok (.invokevirtual 127, 3) := by decide +kernel
theorem dX11_owe_9 : decode cX11_owe 9 = .ok (.ifCond .ne 9, 3) := by decide +kernel
theorem dX11_owe_12 : decode cX11_owe 12 = .ok (.aload_n 0, 1) := by decide +kernel
theorem dX11_owe_13 : decode cX11_owe 13 = .ok (.iconst (-1), 1) := by decide +kernel
theorem dX11_owe_14 : decode cX11_owe 14 = .ok (.invokevirtual 46, 3) := by decide +kernel
theorem dX11_owe_17 : decode cX11_owe 17 = .ok (.ireturn, 1) := by decide +kernel
theorem dX11_owe_18 : decode cX11_owe 18 = .ok (.iload_n 3, 1) := by decide +kernel
theorem dX11_owe_19 : decode cX11_owe 19 = .ok (.ifCond .ge 10, 3) := by decide +kernel
theorem dX11_owe_22 : decode cX11_owe 22 = .ok (.aload_n 0, 1) := by decide +kernel
theorem dX11_owe_23 : decode cX11_owe 23 = .ok (.bipush (-4), 2) := by decide +kernel
theorem dX11_owe_25 : decode cX11_owe 25 = .ok (.invokevirtual 46, 3) := by decide +kernel
theorem dX11_owe_28 : decode cX11_owe 28 = .ok (.ireturn, 1) := by decide +kernel
theorem dX11_owe_29 : decode cX11_owe 29 = .ok (.iload_n 3, 1) := by decide +kernel
theorem dX11_owe_30 : decode cX11_owe 30 = .ok (.bipush 99, 2) := by decide +kernel
theorem dX11_owe_32 : decode cX11_owe 32 = .ok (.if_icmp .le 10, 3) := by decide +kernel
theorem dX11_owe_35 : decode cX11_owe 35 = .ok (.aload_n 0, 1) := by decide +kernel
theorem dX11_owe_36 : decode cX11_owe 36 = .ok (.bipush (-6), 2) := by decide +kernel
theorem dX11_owe_38 : decode cX11_owe 38 = .ok (.invokevirtual 46, 3) := by decide +kernel
theorem dX11_owe_41 : decode cX11_owe 41 = .ok (.ireturn, 1) := by decide +kernel
theorem dX11_owe_42 : decode cX11_owe 42 = .ok (.aload_n 0, 1) := by decide +kernel
theorem dX11_owe_43 : decode cX11_owe 43 = .ok (.getfield 10, 3) := by decide +kernel
theorem dX11_owe_46 : decode cX11_owe 46 = .ok (.getfield 145, 3) := by decide +kernel
theorem dX11_owe_49 : decode cX11_owe 49 = .ok (.iload_n 1, 1) := by decide +kernel
theorem dX11_owe_50 : decode cX11_owe 50 = .ok (.iload_n 2, 1) := by decide +kernel
theorem dX11_owe_51 : decode cX11_owe 51 = .ok (.invokevirtual 179, 3) := by decide +kernel
theorem dX11_owe_54 : decode cX11_owe 54 = .ok (.istore 4, 2) := by decide +kernel
theorem dX11_owe_56 : decode cX11_owe 56 = .ok (.aload_n 0, 1) := by decide +kernel
theorem dX11_owe_57 : decode cX11_owe 57 = .ok (.getfield 10, 3) := by decide +kernel
theorem dX11_owe_60 : decode cX11_owe 60 = .ok (.getfield 145, 3) := by decide +kernel
theorem dX11_owe_63 : decode cX11_owe 63 = .ok (.iload_n 1, 1) := by decide +kernel
theorem dX11_owe_64 : decode cX11_owe 64 = .ok (.iload_n 2, 1) := by decide +kernel
theorem dX11_owe_65 : decode cX11_owe 65 = .ok (.iload_n 3, 1) := by decide +kernel
theorem dX11_owe_66 : decode cX11_owe 66 = .ok (.invokevirtual 182, 3) := by decide +kernel
theorem dX11_owe_69 : decode cX11_owe 69 = .ok (.iload 4, 2) := by decide +kernel
theorem dX11_owe_71 : decode cX11_owe 71 = .ok (.ireturn, 1) := by decide +kernel
theorem dX11_strike_0 : decode cX11_strike 0 = .ok (.aload_n 0, 1) := by decide +kernel
theorem dX11_strike_1 : decode cX11_strike 1 = .ok (.getfield 10, 3) := by decide +kernel
theorem dX11_strike_4 : decode cX11_strike 4 = .ok (.getfield 145, 3) := by decide +kernel
theorem dX11_strike_7 : decode cX11_strike 7 = .ok (.invokevirtual 186, 3) := by decide +kernel
theorem dX11_strike_10 : decode cX11_strike 10 = .ok (.ireturn, 1) := by decide +kernel
theorem dX11_behind_0 : decode cX11_behind 0 = .ok (.aload_n 0, 1) := by decide +kernel
theorem dX11_behind_1 : decode cX11_behind 1 = .ok (.getfield 10, 3) := by decide +kernel
theorem dX11_behind_4 : decode cX11_behind 4 = .ok (.iload_n 1, 1) := by decide +kernel
theorem dX11_behind_5 : decode cX11_behind 5 = .ok (.invokevirtual 70, 3) := by decide +kernel
theorem dX11_behind_8 : decode cX11_behind 8 = .ok (.ifCond .ne 9, 3) := by decide +kernel
theorem dX11_behind_11 : decode cX11_behind 11 = .ok (.aload_n 0, 1) := by decide +kernel
theorem dX11_behind_12 : decode cX11_behind 12 = .ok (.iconst (-1), 1) := by decide +kernel
theorem dX11_behind_13 : decode cX11_behind 13 = .ok (.invokevirtual 46, 3) := by decide +kernel
theorem dX11_behind_16 : decode cX11_behind 16 = .ok (.ireturn, 1) := by decide +kernel
theorem dX11_behind_17 : decode cX11_behind 17 = .ok (.iload_n 2, 1) := by decide +kernel
theorem dX11_behind_18 : decode cX11_behind 18 = .ok (.ifCond .ge 10, 3) := by decide +kernel
theorem dX11_behind_21 : decode cX11_behind 21 = .ok (.aload_n 0, 1) := by decide +kernel
theorem dX11_behind_22 : decode cX11_behind 22 = .ok (.bipush (-4), 2) := by decide +kernel
theorem dX11_behind_24 : decode cX11_behind 24 = .ok (.invokevirtual 46, 3) := by decide +kernel
theorem dX11_behind_27 : decode cX11_behind 27 = .ok (.ireturn, 1) := by decide +kernel
theorem dX11_behind_28 : decode cX11_behind 28 = .ok (.iload_n 2, 1) := by decide +kernel
theorem dX11_behind_29 : decode cX11_behind 29 = .ok (.bipush 60, 2) := by decide +kernel
theorem dX11_behind_31 : decode cX11_behind 31 = .ok (.if_icmp .le 10, 3) := by decide +kernel
theorem dX11_behind_34 : decode cX11_behind 34 = .ok (.aload_n 0, 1) := by decide +kernel
theorem dX11_behind_35 : decode cX11_behind 35 = .ok (.bipush (-6), 2) := by decide +kernel
theorem dX11_behind_37 : decode cX11_behind 37 = .ok (.invokevirtual 46, 3) := by decide +kernel
theorem dX11_behind_40 : decode cX11_behind 40 = .ok (.ireturn, 1) := by decide +kernel
theorem dX11_behind_41 : decode cX11_behind 41 = .ok (.aload_n 0, 1) := by decide +kernel
theorem dX11_behind_42 : decode cX11_behind 42 = .ok (.iload_n 2, 1) := by decide +kernel
theorem dX11_behind_43 : decode cX11_behind 43 = .ok (.aload_n 0, 1) := by decide +kernel
theorem dX11_behind_44 : decode cX11_behind 44 = .ok (.getfield 10, 3) := by decide +kernel
theorem dX11_behind_47 : decode cX11_behind 47 = .ok (.getfield 124, 3) := by decide +kernel
theorem dX11_behind_50 : decode cX11_behind 50 = .ok (.aload_n 0, 1) := by decide +kernel
theorem dX11_behind_51 : decode cX11_behind 51 = .ok (.getfield 25, 3) := by decide +kernel
theorem dX11_behind_54 : decode cX11_behind 54 = .ok (.invokevirtual 189, 3) := by decide +kernel
theorem dX11_behind_57 : decode cX11_behind 57 = .ok (.aload_n 0, 1) := by decide +kernel
theorem dX11_behind_58 : decode cX11_behind 58 = .ok (.getfield 16, 3) := by decide +kernel
theorem dX11_behind_61 : decode cX11_behind 61 = .ok (.getfield 108, 3) := by decide +kernel
theorem dX11_behind_64 : decode cX11_behind 64 = .ok (.iload_n 1, 1) := by decide +kernel
theorem dX11_behind_65 : decode cX11_behind 65 = .ok (.iaload, 1) := by decide +kernel
theorem dX11_behind_66 : decode cX11_behind 66 = .ok (.ireturn, 1) := by decide +kernel
theorem dX11_served_0 : decode cX11_served 0 = .ok (.iload_n 2, 1) := by decide +kernel
theorem dX11_served_1 : decode cX11_served 1 = .ok (.ifCond .lt 8, 3) := by decide +kernel
theorem dX11_served_4 : decode cX11_served 4 = .ok (.iload_n 2, 1) := by decide +kernel
theorem dX11_served_5 : decode cX11_served 5 = .ok (.iconst 1, 1) := by decide +kernel
theorem dX11_served_6 : decode cX11_served 6 = .ok (.if_icmp .le 10, 3) := by decide +kernel
theorem dX11_served_9 : decode cX11_served 9 = .ok (.aload_n 0, 1) := by decide +kernel
theorem dX11_served_10 : decode cX11_served 10 = .ok (.bipush (-2), 2) := by decide +kernel
theorem dX11_served_12 : decode cX11_served 12 = .ok (.invokevirtual 46, 3) := by decide +kernel
theorem dX11_served_15 : decode cX11_served 15 = .ok (.ireturn, 1) := by decide +kernel
theorem dX11_served_16 : decode cX11_served 16 = .ok (.iload_n 1, 1) := by decide +kernel
theorem dX11_served_17 : decode cX11_served 17 = .ok (.ifCond .ge 10, 3) := by decide +kernel
theorem dX11_served_20 : decode cX11_served 20 = .ok (.aload_n 0, 1) := by decide +kernel
theorem dX11_served_21 : decode cX11_served 21 = .ok (.bipush (-4), 2) := by decide +kernel
theorem dX11_served_23 : decode cX11_served 23 = .ok (.invokevirtual 46, 3) := by decide +kernel
theorem dX11_served_26 : decode cX11_served 26 = .ok (.ireturn, 1) := by decide +kernel
theorem dX11_served_27 : decode cX11_served 27 = .ok (.iload_n 1, 1) := by decide +kernel
theorem dX11_served_28 : decode cX11_served 28 = .ok (.bipush 60, 2) := by decide +kernel
theorem dX11_served_30 : decode cX11_served 30 = .ok (.if_icmp .le 10, 3) := by decide +kernel
theorem dX11_served_33 : decode cX11_served 33 = .ok (.aload_n 0, 1) := by decide +kernel
theorem dX11_served_34 : decode cX11_served 34 = .ok (.bipush (-6), 2) := by decide +kernel
theorem dX11_served_36 : decode cX11_served 36 = .ok (.invokevirtual 46, 3) := by decide +kernel
theorem dX11_served_39 : decode cX11_served 39 = .ok (.ireturn, 1) := by decide +kernel
theorem dX11_served_40 : decode cX11_served 40 = .ok (.aload_n 0, 1) := by decide +kernel
theorem dX11_served_41 : decode cX11_served 41 = .ok (.iload_n 1, 1) := by decide +kernel
theorem dX11_served_42 : decode cX11_served 42 = .ok (.aload_n 0, 1) := by decide +kernel
theorem dX11_served_43 : decode cX11_served 43 = .ok (.getfield 10, 3) := by decide +kernel
theorem dX11_served_46 : decode cX11_served 46 = .ok (.getfield 124, 3) := by decide +kernel
theorem dX11_served_49 : decode cX11_served 49 = .ok (.aload_n 0, 1) := by decide +kernel
theorem dX11_served_50 : decode cX11_served 50 = .ok (.getfield 25, 3) := by decide +kernel
theorem dX11_served_53 : decode cX11_served 53 = .ok (.invokevirtual 189, 3) := by decide +kernel
theorem dX11_served_56 : decode cX11_served 56 = .ok (.iload_n 2, 1) := by decide +kernel
theorem dX11_served_57 : decode cX11_served 57 = .ok (.ifCond .ne 13, 3) := by decide +kernel
theorem dX11_served_60 : decode cX11_served 60 = .ok (.aload_n 0, 1) := by decide +kernel
theorem dX11_served_61 : decode cX11_served 61 = .ok (.getfield 25, 3) := by decide +kernel
theorem dX11_served_64 : decode cX11_served 64 = .ok (.getfield 176, 3) := by decide +kernel
theorem dX11_served_67 : decode cX11_served 67 = .ok (.goto 10, 3) := by decide +kernel
theorem dX11_served_70 : decode cX11_served 70 = .ok (.aload_n 0, 1) := by decide +kernel
theorem dX11_served_71 : decode cX11_served 71 = .ok (.getfield 25, 3) := by decide +kernel
theorem dX11_served_74 : decode cX11_served 74 = .ok (.getfield 193, 3) := by decide +kernel
theorem dX11_served_77 : decode cX11_served 77 = .ok (.ireturn, 1) := by decide +kernel
theorem dX11_drift_0 : decode cX11_drift 0 = .ok (.iload_n 1, 1) := by decide +kernel
theorem dX11_drift_1 : decode cX11_drift 1 = .ok (.ifCond .lt 8, 3) := by decide +kernel
theorem dX11_drift_4 : decode cX11_drift 4 = .ok (.iload_n 1, 1) := by decide +kernel
theorem dX11_drift_5 : decode cX11_drift 5 = .ok (.iconst 1, 1) := by decide +kernel
theorem dX11_drift_6 : decode cX11_drift 6 = .ok (.if_icmp .le 10, 3) := by decide +kernel
theorem dX11_drift_9 : decode cX11_drift 9 = .ok (.aload_n 0, 1) := by decide +kernel
theorem dX11_drift_10 : decode cX11_drift 10 = .ok (.bipush (-2), 2) := by decide +kernel
theorem dX11_drift_12 : decode cX11_drift 12 = .ok (.invokevirtual 46, 3) := by decide +kernel
theorem dX11_drift_15 : decode cX11_drift 15 = .ok (.ireturn, 1) := by decide +kernel
theorem dX11_drift_16 : decode cX11_drift 16 = .ok (.aload_n 0, 1) := by decide +kernel
theorem dX11_drift_17 : decode cX11_drift 17 = .ok (.getfield 10, 3) := by decide +kernel
theorem dX11_drift_20 : decode cX11_drift 20 = .ok (.getfield 134, 3) := by decide +kernel
theorem dX11_drift_23 : decode cX11_drift 23 = .ok (.ifCond .ne 10, 3) := by decide +kernel
theorem dX11_drift_26 : decode cX11_drift 26 = .ok (.aload_n 0, 1) := by decide +kernel
theorem dX11_drift_27 : decode cX11_drift 27 = .ok (.bipush (-3), 2) := by decide +kernel
theorem dX11_drift_29 : decode cX11_drift 29 = .ok (.invokevirtual 46, 3) := by decide +kernel
theorem dX11_drift_32 : decode cX11_drift 32 = .ok (.ireturn, 1) := by decide +kernel
theorem dX11_drift_33 : decode cX11_drift 33 = .ok (.aload_n 0, 1) := by decide +kernel
theorem dX11_drift_34 : decode cX11_drift 34 = .ok (.getfield 16, 3) := by decide +kernel
theorem dX11_drift_37 : decode cX11_drift 37 = .ok (.aload_n 0, 1) := by decide +kernel
theorem dX11_drift_38 : decode cX11_drift 38 = .ok (.getfield 10, 3) := by decide +kernel
theorem dX11_drift_41 : decode cX11_drift 41 = .ok (.invokevirtual 62, 3) := by decide +kernel
theorem dX11_drift_44 : decode cX11_drift 44 = .ok (.aload_n 0, 1) := by decide +kernel
theorem dX11_drift_45 : decode cX11_drift 45 = .ok (.getfield 25, 3) := by decide +kernel
theorem dX11_drift_48 : decode cX11_drift 48 = .ok (.invokevirtual 169, 3) := by decide +kernel
theorem dX11_drift_51 : decode cX11_drift 51 = .ok (.iconst 0, 1) := by decide +kernel
theorem dX11_drift_52 : decode cX11_drift 52 = .ok (.istore_n 2, 1) := by decide +kernel
theorem dX11_drift_53 : decode cX11_drift 53 = .ok (.iload_n 2, 1) := by decide +kernel
theorem dX11_drift_54 : decode cX11_drift 54 = .ok (.bipush 100, 2) := by decide +kernel
theorem dX11_drift_56 : decode cX11_drift 56 = .ok (.if_icmp .gt 48, 3) := by decide +kernel
theorem dX11_drift_59 : decode cX11_drift 59 = .ok (.aload_n 0, 1) := by decide +kernel
theorem dX11_drift_60 : decode cX11_drift 60 = .ok (.getfield 16, 3) := by decide +kernel
theorem dX11_drift_63 : decode cX11_drift 63 = .ok (.invokevirtual 196, 3) := by decide +kernel
theorem dX11_drift_66 : decode cX11_drift 66 = .ok (.istore_n 3, 1) := by decide +kernel
theorem dX11_drift_67 : decode cX11_drift 67 = .ok (.aload_n 0, 1) := by decide +kernel
theorem dX11_drift_68 : decode cX11_drift 68 = .ok (.getfield 16, 3) := by decide +kernel
theorem dX11_drift_71 : decode cX11_drift 71 = .ok (.aload_n 0, 1) := by decide +kernel
theorem dX11_drift_72 : decode cX11_drift 72 = .ok (.getfield 25, 3) := by decide +kernel
theorem dX11_drift_75 : decode cX11_drift 75 = .ok (.invokevirtual 172, 3) := by decide +kernel
theorem dX11_drift_78 : decode cX11_drift 78 = .ok (.aload_n 0, 1) := by decide +kernel
theorem dX11_drift_79 : decode cX11_drift 79 = .ok (.getfield 25, 3) := by decide +kernel
theorem dX11_drift_82 : decode cX11_drift 82 = .ok (.getfield 199, 3) := by decide +kernel
theorem dX11_drift_85 : decode cX11_drift 85 = .ok (.ifCond .ne 13, 3) := by decide +kernel
theorem dX11_drift_88 : decode cX11_drift 88 = .ok (.iload_n 1, 1) := by decide +kernel
theorem dX11_drift_89 : decode cX11_drift 89 = .ok (.ifCond .ne 7, 3) := by decide +kernel
theorem dX11_drift_92 : decode cX11_drift 92 = .ok (.iload_n 2, 1) := by decide +kernel
theorem dX11_drift_93 : decode cX11_drift 93 = .ok (.goto 4, 3) := by decide +kernel
theorem dX11_drift_96 : decode cX11_drift 96 = .ok (.iload_n 3, 1) := by decide +kernel
theorem dX11_drift_97 : decode cX11_drift 97 = .ok (.ireturn, 1) := by decide +kernel
theorem dX11_drift_98 : decode cX11_drift 98 = .ok (.iinc 2 1, 3) := by decide +kernel
theorem dX11_drift_101 : decode cX11_drift 101 = .ok (.goto (-48), 3) := by decide +kernel
theorem dX11_drift_104 : decode cX11_drift 104 = .ok (.bipush (-9), 2) := by decide +kernel
theorem dX11_drift_106 : decode cX11_drift 106 = .ok (.ireturn, 1) := by decide +kernel
theorem dX11_votes_0 : decode cX11_votes 0 = .ok (.iload_n 1, 1) := by decide +kernel
theorem dX11_votes_1 : decode cX11_votes 1 = .ok (.invokestatic 121, 3) := by decide +kernel
theorem dX11_votes_4 : decode cX11_votes 4 = .ok (.ifCond .ne 10, 3) := by decide +kernel
theorem dX11_votes_7 : decode cX11_votes 7 = .ok (.aload_n 0, 1) := by decide +kernel
theorem dX11_votes_8 : decode cX11_votes 8 = .ok (.bipush (-2), 2) := by decide +kernel
theorem dX11_votes_10 : decode cX11_votes 10 = .ok (.invokevirtual 46, 3) := by decide +kernel
theorem dX11_votes_13 : decode cX11_votes 13 = .ok (.ireturn, 1) := by decide +kernel
theorem dX11_votes_14 : decode cX11_votes 14 = .ok (.iload_n 2, 1) := by decide +kernel
theorem dX11_votes_15 : decode cX11_votes 15 = .ok (.iconst 1, 1) := by decide +kernel
theorem dX11_votes_16 : decode cX11_votes 16 = .ok (.if_icmp .ge 10, 3) := by decide +kernel
theorem dX11_votes_19 : decode cX11_votes 19 = .ok (.aload_n 0, 1) := by decide +kernel
theorem dX11_votes_20 : decode cX11_votes 20 = .ok (.bipush (-4), 2) := by decide +kernel
theorem dX11_votes_22 : decode cX11_votes 22 = .ok (.invokevirtual 46, 3) := by decide +kernel
theorem dX11_votes_25 : decode cX11_votes 25 = .ok (.ireturn, 1) := by decide +kernel
theorem dX11_votes_26 : decode cX11_votes 26 = .ok (.iload_n 2, 1) := by decide +kernel
theorem dX11_votes_27 : decode cX11_votes 27 = .ok (.bipush 30, 2) := by decide +kernel
theorem dX11_votes_29 : decode cX11_votes 29 = .ok (.if_icmp .le 10, 3) := by decide +kernel
theorem dX11_votes_32 : decode cX11_votes 32 = .ok (.aload_n 0, 1) := by decide +kernel
theorem dX11_votes_33 : decode cX11_votes 33 = .ok (.bipush (-6), 2) := by decide +kernel
theorem dX11_votes_35 : decode cX11_votes 35 = .ok (.invokevirtual 46, 3) := by decide +kernel
theorem dX11_votes_38 : decode cX11_votes 38 = .ok (.ireturn, 1) := by decide +kernel
theorem dX11_votes_39 : decode cX11_votes 39 = .ok (.aload_n 0, 1) := by decide +kernel
theorem dX11_votes_40 : decode cX11_votes 40 = .ok (.iload_n 2, 1) := by decide +kernel
theorem dX11_votes_41 : decode cX11_votes 41 = .ok (.aload_n 0, 1) := by decide +kernel
theorem dX11_votes_42 : decode cX11_votes 42 = .ok (.getfield 10, 3) := by decide +kernel
theorem dX11_votes_45 : decode cX11_votes 45 = .ok (.getfield 124, 3) := by decide +kernel
theorem dX11_votes_48 : decode cX11_votes 48 = .ok (.aload_n 0, 1) := by decide +kernel
theorem dX11_votes_49 : decode cX11_votes 49 = .ok (.getfield 25, 3) := by decide +kernel
theorem dX11_votes_52 : decode cX11_votes 52 = .ok (.invokevirtual 189, 3) := by decide +kernel
theorem dX11_votes_55 : decode cX11_votes 55 = .ok (.aload_n 0, 1) := by decide +kernel
theorem dX11_votes_56 : decode cX11_votes 56 = .ok (.iload_n 2, 1) := by decide +kernel
theorem dX11_votes_57 : decode cX11_votes 57 = .ok (.iload_n 1, 1) := by decide +kernel
theorem dX11_votes_58 : decode cX11_votes 58 = .ok (.aload_n 0, 1) := by decide +kernel
theorem dX11_votes_59 : decode cX11_votes 59 = .ok (.getfield 29, 3) := by decide +kernel
theorem dX11_votes_62 : decode cX11_votes 62 = .ok (.invokevirtual 189, 3) := by decide +kernel
theorem dX11_votes_65 : decode cX11_votes 65 = .ok (.iconst 0, 1) := by decide +kernel
theorem dX11_votes_66 : decode cX11_votes 66 = .ok (.istore_n 3, 1) := by decide +kernel
theorem dX11_votes_67 : decode cX11_votes 67 = .ok (.iconst 0, 1) := by decide +kernel
theorem dX11_votes_68 : decode cX11_votes 68 = .ok (.istore 4, 2) := by decide +kernel
theorem dX11_votes_70 : decode cX11_votes 70 = .ok (.iload 4, 2) := by decide +kernel
theorem dX11_votes_72 : decode cX11_votes 72 = .ok (.aload_n 0, 1) := by decide +kernel
theorem dX11_votes_73 : decode cX11_votes 73 = .ok (.getfield 10, 3) := by decide +kernel
theorem dX11_votes_76 : decode cX11_votes 76 = .ok (.getfield 134, 3) := by decide +kernel
theorem dX11_votes_79 : decode cX11_votes 79 = .ok (.if_icmp .ge 39, 3) := by decide +kernel
theorem dX11_votes_82 : decode cX11_votes 82 = .ok (.aload_n 0, 1) := by decide +kernel
theorem dX11_votes_83 : decode cX11_votes 83 = .ok (.getfield 29, 3) := by decide +kernel
theorem dX11_votes_86 : decode cX11_votes 86 = .ok (.getfield 202, 3) := by decide +kernel
theorem dX11_votes_89 : decode cX11_votes 89 = .ok (.iload 4, 2) := by decide +kernel
theorem dX11_votes_91 : decode cX11_votes 91 = .ok (.iaload, 1) := by decide +kernel
theorem dX11_votes_92 : decode cX11_votes 92 = .ok (.aload_n 0, 1) := by decide +kernel
theorem dX11_votes_93 : decode cX11_votes 93 = .ok (.getfield 25, 3) := by decide +kernel
theorem dX11_votes_96 : decode cX11_votes 96 = .ok (.getfield 202, 3) := by decide +kernel
theorem dX11_votes_99 : decode cX11_votes 99 = .ok (.iload 4, 2) := by decide +kernel
theorem dX11_votes_101 : decode cX11_votes 101 = .ok (.iaload, 1) := by decide +kernel
theorem dX11_votes_102 : decode cX11_votes 102 = .ok (.if_icmp .le 10, 3) := by decide +kernel
theorem dX11_votes_105 : decode cX11_votes 105 = .ok (.iload_n 3, 1) := by decide +kernel
theorem dX11_votes_106 : decode cX11_votes 106 = .ok (.iconst 1, 1) := by decide +kernel
theorem dX11_votes_107 : decode cX11_votes 107 = .ok (.iload 4, 2) := by decide +kernel
theorem dX11_votes_109 : decode cX11_votes 109 = .ok (.ishl, 1) := by decide +kernel
theorem dX11_votes_110 : decode cX11_votes 110 = .ok (.ior, 1) := by decide +kernel
theorem dX11_votes_111 : decode cX11_votes 111 = .ok (.istore_n 3, 1) := by decide +kernel
theorem dX11_votes_112 : decode cX11_votes 112 = .ok (.iinc 4 1, 3) := by decide +kernel
theorem dX11_votes_115 : decode cX11_votes 115 = .ok (.goto (-45), 3) := by decide +kernel
theorem dX11_votes_118 : decode cX11_votes 118 = .ok (.iload_n 3, 1) := by decide +kernel
theorem dX11_votes_119 : decode cX11_votes 119 = .ok (.ireturn, 1) := by decide +kernel
theorem dX11_passInMind_0 : decode cX11_passInMind 0 = .ok (.aload_n 0, 1) := by decide +kernel
theorem dX11_passInMind_1 : decode cX11_passInMind 1 = .ok (.getfield 16, 3) := by decide +kernel
theorem dX11_passInMind_4 : decode cX11_passInMind 4 = .ok (.aload_n 0, 1) := by decide +kernel
theorem dX11_passInMind_5 : decode cX11_passInMind 5 = .ok (.getfield 10, 3) := by decide +kernel
theorem dX11_passInMind_8 : decode cX11_passInMind 8 = .ok (.invokevirtual 62, 3) := by decide +kernel
theorem dX11_passInMind_11 : decode cX11_passInMind 11 = .ok (.aload_n 0, 1) := by decide +kernel
theorem dX11_passInMind_12 : decode cX11_passInMind 12 = .ok (.getfield 16, 3) := by decide +kernel
theorem dX11_passInMind_15 : decode cX11_passInMind 15 = .ok (.iload_n 2, 1) := by decide +kernel
theorem dX11_passInMind_16 : decode cX11_passInMind 16 = .ok (.putfield 124, 3) := by decide +kernel
theorem dX11_passInMind_19 : decode cX11_passInMind 19 = .ok (.aload_n 3, 1) := by decide +kernel
theorem dX11_passInMind_20 : decode cX11_passInMind 20 = .ok (.invokevirtual 169, 3) := by decide +kernel
theorem dX11_passInMind_23 : decode cX11_passInMind 23 = .ok (.iconst 0, 1) := by decide +kernel
theorem dX11_passInMind_24 : decode cX11_passInMind 24 = .ok (.istore 4, 2) := by decide +kernel
theorem dX11_passInMind_26 : decode cX11_passInMind 26 = .ok (.iload 4, 2) := by decide +kernel
theorem dX11_passInMind_28 : decode cX11_passInMind 28 = .ok (.iload_n 1, 1) := by decide +kernel
theorem dX11_passInMind_29 : decode cX11_passInMind 29 = .ok (.if_icmp .ge 17, 3) := by decide +kernel
theorem dX11_passInMind_32 : decode cX11_passInMind 32 = .ok (.aload_n 0, 1) := by decide +kernel
theorem dX11_passInMind_33 : decode cX11_passInMind 33 = .ok (.getfield 16, 3) := by decide +kernel
theorem dX11_passInMind_36 : decode cX11_passInMind 36 = .ok (.aload_n 3, 1) := by decide +kernel
theorem dX11_passInMind_37 : decode cX11_passInMind 37 = .ok (.invokevirtual 172, 3) := by decide +kernel
theorem dX11_passInMind_40 : decode cX11_passInMind 40 = .ok (.iinc 4 1, 3) := by decide +kernel
theorem dX11_passInMind_43 : decode cX11_passInMind 43 = .ok (.goto (-17), 3) := by decide +kernel
theorem dX11_passInMind_46 : decode cX11_passInMind 46 = .ok (.return_, 1) := by decide +kernel
theorem dX11_rings_0 : decode cX11_rings 0 = .ok (.iload_n 1, 1) := by decide +kernel
theorem dX11_rings_1 : decode cX11_rings 1 = .ok (.ifCond .lt 8, 3) := by decide +kernel
theorem dX11_rings_4 : decode cX11_rings 4 = .ok (.iload_n 1, 1) := by decide +kernel
theorem dX11_rings_5 : decode cX11_rings 5 = .ok (.iconst 1, 1) := by decide +kernel
theorem dX11_rings_6 : decode cX11_rings 6 = .ok (.if_icmp .le 10, 3) := by decide +kernel
theorem dX11_rings_9 : decode cX11_rings 9 = .ok (.aload_n 0, 1) := by decide +kernel
theorem dX11_rings_10 : decode cX11_rings 10 = .ok (.bipush (-2), 2) := by decide +kernel
theorem dX11_rings_12 : decode cX11_rings 12 = .ok (.invokevirtual 46, 3) := by decide +kernel
theorem dX11_rings_15 : decode cX11_rings 15 = .ok (.ireturn, 1) := by decide +kernel
theorem dX11_rings_16 : decode cX11_rings 16 = .ok (.aload_n 0, 1) := by decide +kernel
theorem dX11_rings_17 : decode cX11_rings 17 = .ok (.getfield 16, 3) := by decide +kernel
theorem dX11_rings_20 : decode cX11_rings 20 = .ok (.aload_n 0, 1) := by decide +kernel
theorem dX11_rings_21 : decode cX11_rings 21 = .ok (.getfield 10, 3) := by decide +kernel
theorem dX11_rings_24 : decode cX11_rings 24 = .ok (.invokevirtual 62, 3) := by decide +kernel
theorem dX11_rings_27 : decode cX11_rings 27 = .ok (.aload_n 0, 1) := by decide +kernel
theorem dX11_rings_28 : decode cX11_rings 28 = .ok (.getfield 16, 3) := by decide +kernel
theorem dX11_rings_31 : decode cX11_rings 31 = .ok (.getfield 145, 3) := by decide +kernel
theorem dX11_rings_34 : decode cX11_rings 34 = .ok (.invokevirtual 186, 3) := by decide +kernel
theorem dX11_rings_37 : decode cX11_rings 37 = .ok (.istore_n 2, 1) := by decide +kernel
theorem dX11_rings_38 : decode cX11_rings 38 = .ok (.iload_n 1, 1) := by decide +kernel
theorem dX11_rings_39 : decode cX11_rings 39 = .ok (.ifCond .ne 7, 3) := by decide +kernel
theorem dX11_rings_42 : decode cX11_rings 42 = .ok (.iload_n 2, 1) := by decide +kernel
theorem dX11_rings_43 : decode cX11_rings 43 = .ok (.goto 24, 3) := by decide +kernel
theorem dX11_rings_46 : decode cX11_rings 46 = .ok (.aload_n 0, 1) := by decide +kernel
theorem dX11_rings_47 : decode cX11_rings 47 = .ok (.getfield 10, 3) := by decide +kernel
theorem dX11_rings_50 : decode cX11_rings 50 = .ok (.getfield 145, 3) := by decide +kernel
theorem dX11_rings_53 : decode cX11_rings 53 = .ok (.invokevirtual 149, 3) := by decide +kernel
theorem dX11_rings_56 : decode cX11_rings 56 = .ok (.aload_n 0, 1) := by decide +kernel
theorem dX11_rings_57 : decode cX11_rings 57 = .ok (.getfield 16, 3) := by decide +kernel
theorem dX11_rings_60 : decode cX11_rings 60 = .ok (.getfield 145, 3) := by decide +kernel
theorem dX11_rings_63 : decode cX11_rings 63 = .ok (.invokevirtual 149, 3) := by decide +kernel
theorem dX11_rings_66 : decode cX11_rings 66 = .ok (.isub, 1) := by decide +kernel
theorem dX11_rings_67 : decode cX11_rings 67 = .ok (.ireturn, 1) := by decide +kernel
theorem dX11_seeds_0 : decode cX11_seeds 0 = .ok (.iload_n 1, 1) := by decide +kernel
theorem dX11_seeds_1 : decode cX11_seeds 1 = .ok (.iconst 1, 1) := by decide +kernel
theorem dX11_seeds_2 : decode cX11_seeds 2 = .ok (.if_icmp .ge 10, 3) := by decide +kernel
theorem dX11_seeds_5 : decode cX11_seeds 5 = .ok (.aload_n 0, 1) := by decide +kernel
theorem dX11_seeds_6 : decode cX11_seeds 6 = .ok (.bipush (-4), 2) := by decide +kernel
theorem dX11_seeds_8 : decode cX11_seeds 8 = .ok (.invokevirtual 46, 3) := by decide +kernel
theorem dX11_seeds_11 : decode cX11_seeds 11 = .ok (.ireturn, 1) := by decide +kernel
theorem dX11_seeds_12 : decode cX11_seeds 12 = .ok (.iload_n 1, 1) := by decide +kernel
theorem dX11_seeds_13 : decode cX11_seeds 13 = .ok (.bipush 60, 2) := by decide +kernel
theorem dX11_seeds_15 : decode cX11_seeds 15 = .ok (.if_icmp .le 10, 3) := by decide +kernel
theorem dX11_seeds_18 : decode cX11_seeds 18 = .ok (.aload_n 0, 1) := by decide +kernel
theorem dX11_seeds_19 : decode cX11_seeds 19 = .ok (.bipush (-6), 2) := by decide +kernel
theorem dX11_seeds_21 : decode cX11_seeds 21 = .ok (.invokevirtual 46, 3) := by decide +kernel
theorem dX11_seeds_24 : decode cX11_seeds 24 = .ok (.ireturn, 1) := by decide +kernel
theorem dX11_seeds_25 : decode cX11_seeds 25 = .ok (.aload_n 0, 1) := by decide +kernel
theorem dX11_seeds_26 : decode cX11_seeds 26 = .ok (.getfield 10, 3) := by decide +kernel
theorem dX11_seeds_29 : decode cX11_seeds 29 = .ok (.getfield 134, 3) := by decide +kernel
theorem dX11_seeds_32 : decode cX11_seeds 32 = .ok (.ifCond .ne 10, 3) := by decide +kernel
theorem dX11_seeds_35 : decode cX11_seeds 35 = .ok (.aload_n 0, 1) := by decide +kernel
theorem dX11_seeds_36 : decode cX11_seeds 36 = .ok (.bipush (-3), 2) := by decide +kernel
theorem dX11_seeds_38 : decode cX11_seeds 38 = .ok (.invokevirtual 46, 3) := by decide +kernel
theorem dX11_seeds_41 : decode cX11_seeds 41 = .ok (.ireturn, 1) := by decide +kernel
theorem dX11_seeds_42 : decode cX11_seeds 42 = .ok (.aload_n 0, 1) := by decide +kernel
theorem dX11_seeds_43 : decode cX11_seeds 43 = .ok (.getfield 16, 3) := by decide +kernel
theorem dX11_seeds_46 : decode cX11_seeds 46 = .ok (.aload_n 0, 1) := by decide +kernel
theorem dX11_seeds_47 : decode cX11_seeds 47 = .ok (.getfield 10, 3) := by decide +kernel
theorem dX11_seeds_50 : decode cX11_seeds 50 = .ok (.invokevirtual 62, 3) := by decide +kernel
theorem dX11_seeds_53 : decode cX11_seeds 53 = .ok (.iconst 0, 1) := by decide +kernel
theorem dX11_seeds_54 : decode cX11_seeds 54 = .ok (.istore_n 3, 1) := by decide +kernel
theorem dX11_seeds_55 : decode cX11_seeds 55 = .ok (.iload_n 2, 1) := by decide +kernel
theorem dX11_seeds_56 : decode cX11_seeds 56 = .ok (.istore 4, 2) := by decide +kernel
theorem dX11_seeds_58 : decode cX11_seeds 58 = .ok (.iconst 0, 1) := by decide +kernel
theorem dX11_seeds_59 : decode cX11_seeds 59 = .ok (.istore 5, 2) := by decide +kernel
theorem dX11_seeds_61 : decode cX11_seeds 61 = .ok (.iload 5, 2) := by decide +kernel
theorem dX11_seeds_63 : decode cX11_seeds 63 = .ok (.iload_n 1, 1) := by decide +kernel
theorem dX11_seeds_64 : decode cX11_seeds 64 = .ok (.if_icmp .ge 81, 3) := by decide +kernel
theorem dX11_seeds_67 : decode cX11_seeds 67 = .ok (.iload 4, 2) := by decide +kernel
theorem dX11_seeds_69 : decode cX11_seeds 69 = .ok (.invokestatic 205, 3) := by decide +kernel
theorem dX11_seeds_72 : decode cX11_seeds 72 = .ok (.istore 4, 2) := by decide +kernel
theorem dX11_seeds_74 : decode cX11_seeds 74 = .ok (.aload_n 0, 1) := by decide +kernel
theorem dX11_seeds_75 : decode cX11_seeds 75 = .ok (.getfield 10, 3) := by decide +kernel
theorem dX11_seeds_78 : decode cX11_seeds 78 = .ok (.getfield 134, 3) := by decide +kernel
theorem dX11_seeds_81 : decode cX11_seeds 81 = .ok (.iload 4, 2) := by decide +kernel
theorem dX11_seeds_83 : decode cX11_seeds 83 = .ok (.invokestatic 208, 3) := by decide +kernel
theorem dX11_seeds_86 : decode cX11_seeds 86 = .ok (.istore 6, 2) := by decide +kernel
theorem dX11_seeds_88 : decode cX11_seeds 88 = .ok (.iload 4, 2) := by decide +kernel
theorem dX11_seeds_90 : decode cX11_seeds 90 = .ok (.invokestatic 205, 3) := by decide +kernel
theorem dX11_seeds_93 : decode cX11_seeds 93 = .ok (.istore 4, 2) := by decide +kernel
theorem dX11_seeds_95 : decode cX11_seeds 95 = .ok (.aload_n 0, 1) := by decide +kernel
theorem dX11_seeds_96 : decode cX11_seeds 96 = .ok (.getfield 10, 3) := by decide +kernel
theorem dX11_seeds_99 : decode cX11_seeds 99 = .ok (.getfield 134, 3) := by decide +kernel
theorem dX11_seeds_102 : decode cX11_seeds 102 = .ok (.iload 4, 2) := by decide +kernel
theorem dX11_seeds_104 : decode cX11_seeds 104 = .ok (.invokestatic 208, 3) := by decide +kernel
theorem dX11_seeds_107 : decode cX11_seeds 107 = .ok (.istore 7, 2) := by decide +kernel
theorem dX11_seeds_109 : decode cX11_seeds 109 = .ok (.iload 4, 2) := by decide +kernel
theorem dX11_seeds_111 : decode cX11_seeds 111 = .ok (.invokestatic 205, 3) := by decide +kernel
theorem dX11_seeds_114 : decode cX11_seeds 114 = .ok (.istore 4, 2) := by decide +kernel
theorem dX11_seeds_116 : decode cX11_seeds 116 = .ok (.aload_n 0, 1) := by decide +kernel
theorem dX11_seeds_117 : decode cX11_seeds 117 = .ok (.getfield 16, 3) := by decide +kernel
theorem dX11_seeds_120 : decode cX11_seeds 120 = .ok (.iload 6, 2) := by decide +kernel
theorem dX11_seeds_122 : decode cX11_seeds 122 = .ok (.iload 7, 2) := by decide +kernel
theorem dX11_seeds_124 : decode cX11_seeds 124 = .ok (.iconst 3, 1) := by decide +kernel
theorem dX11_seeds_125 : decode cX11_seeds 125 = .ok (.iload 4, 2) := by decide +kernel
theorem dX11_seeds_127 : decode cX11_seeds 127 = .ok (.invokestatic 208, 3) := by decide +kernel
theorem dX11_seeds_130 : decode cX11_seeds 130 = .ok (.invokevirtual 165, 3) := by decide +kernel
theorem dX11_seeds_133 : decode cX11_seeds 133 = .ok (.ifCond .eq 6, 3) := by decide +kernel
theorem dX11_seeds_136 : decode cX11_seeds 136 = .ok (.iinc 3 1, 3) := by decide +kernel
theorem dX11_seeds_139 : decode cX11_seeds 139 = .ok (.iinc 5 1, 3) := by decide +kernel
theorem dX11_seeds_142 : decode cX11_seeds 142 = .ok (.goto (-81), 3) := by decide +kernel
theorem dX11_seeds_145 : decode cX11_seeds 145 = .ok (.iload_n 3, 1) := by decide +kernel
theorem dX11_seeds_146 : decode cX11_seeds 146 = .ok (.ireturn, 1) := by decide +kernel
theorem dX11_nextSeed_0 : decode cX11_nextSeed 0 = .ok (.iload_n 0, 1) := by decide +kernel
theorem dX11_nextSeed_1 : decode cX11_nextSeed 1 = .ok (.ldc 211, 2) := by decide +kernel
theorem dX11_nextSeed_3 : decode cX11_nextSeed 3 = .ok (.imul, 1) := by decide +kernel
theorem dX11_nextSeed_4 : decode cX11_nextSeed 4 = .ok (.sipush 12345, 3) := by decide +kernel
theorem dX11_nextSeed_7 : decode cX11_nextSeed 7 = .ok (.iadd, 1) := by decide +kernel
theorem dX11_nextSeed_8 : decode cX11_nextSeed 8 = .ok (.ireturn, 1) := by decide +kernel
theorem dX11_drawBelow_0 : decode cX11_drawBelow 0 = .ok (.iload_n 0, 1) := by decide +kernel
theorem dX11_drawBelow_1 : decode cX11_drawBelow 1 = .ok (.ifCond .le 15, 3) := by decide +kernel
theorem dX11_drawBelow_4 : decode cX11_drawBelow 4 = .ok (.iload_n 1, 1) := by decide +kernel
theorem dX11_drawBelow_5 : decode cX11_drawBelow 5 = .ok (.ldc 212, 2) := by decide +kernel
theorem dX11_drawBelow_7 : decode cX11_drawBelow 7 = .ok (.iand, 1) := by decide +kernel
theorem dX11_drawBelow_8 : decode cX11_drawBelow 8 = .ok (.ldc 213, 2) := by decide +kernel
theorem dX11_drawBelow_10 : decode cX11_drawBelow 10 = .ok (.idiv, 1) := by decide +kernel
theorem dX11_drawBelow_11 : decode cX11_drawBelow 11 = .ok (.iload_n 0, 1) := by decide +kernel
theorem dX11_drawBelow_12 : decode cX11_drawBelow 12 = .ok (.irem, 1) := by decide +kernel
theorem dX11_drawBelow_13 : decode cX11_drawBelow 13 = .ok (.goto 4, 3) := by decide +kernel
theorem dX11_drawBelow_16 : decode cX11_drawBelow 16 = .ok (.iconst 0, 1) := by decide +kernel
theorem dX11_drawBelow_17 : decode cX11_drawBelow 17 = .ok (.ireturn, 1) := by decide +kernel
theorem dX11_stuck_0 : decode cX11_stuck 0 = .ok (.iconst 0, 1) := by decide +kernel
theorem dX11_stuck_1 : decode cX11_stuck 1 = .ok (.istore_n 1, 1) := by decide +kernel
theorem dX11_stuck_2 : decode cX11_stuck 2 = .ok (.iconst 0, 1) := by decide +kernel
theorem dX11_stuck_3 : decode cX11_stuck 3 = .ok (.istore_n 2, 1) := by decide +kernel
theorem dX11_stuck_4 : decode cX11_stuck 4 = .ok (.iload_n 2, 1) := by decide +kernel
theorem dX11_stuck_5 : decode cX11_stuck 5 = .ok (.iconst 3, 1) := by decide +kernel
theorem dX11_stuck_6 : decode cX11_stuck 6 = .ok (.if_icmp .ge 20, 3) := by decide +kernel
theorem dX11_stuck_9 : decode cX11_stuck 9 = .ok (.iload_n 1, 1) := by decide +kernel
theorem dX11_stuck_10 : decode cX11_stuck 10 = .ok (.aload_n 0, 1) := by decide +kernel
theorem dX11_stuck_11 : decode cX11_stuck 11 = .ok (.getfield 10, 3) := by decide +kernel
theorem dX11_stuck_14 : decode cX11_stuck 14 = .ok (.iload_n 2, 1) := by decide +kernel
theorem dX11_stuck_15 : decode cX11_stuck 15 = .ok (.invokestatic 214, 3) := by decide +kernel
theorem dX11_stuck_18 : decode cX11_stuck 18 = .ok (.iadd, 1) := by decide +kernel
theorem dX11_stuck_19 : decode cX11_stuck 19 = .ok (.istore_n 1, 1) := by decide +kernel
theorem dX11_stuck_20 : decode cX11_stuck 20 = .ok (.iinc 2 1, 3) := by decide +kernel
theorem dX11_stuck_23 : decode cX11_stuck 23 = .ok (.goto (-19), 3) := by decide +kernel
theorem dX11_stuck_26 : decode cX11_stuck 26 = .ok (.iload_n 1, 1) := by decide +kernel
theorem dX11_stuck_27 : decode cX11_stuck 27 = .ok (.ireturn, 1) := by decide +kernel
theorem dX11_most_0 : decode cX11_most 0 = .ok (.iload_n 1, 1) := by decide +kernel
theorem dX11_most_1 : decode cX11_most 1 = .ok (.invokestatic 111, 3) := by decide +kernel
theorem dX11_most_4 : decode cX11_most 4 = .ok (.ifCond .ne 9, 3) := by decide +kernel
theorem dX11_most_7 : decode cX11_most 7 = .ok (.aload_n 0, 1) := by decide +kernel
theorem dX11_most_8 : decode cX11_most 8 = .ok (.iconst (-1), 1) := by decide +kernel
theorem dX11_most_9 : decode cX11_most 9 = .ok (.invokevirtual 46, 3) := by decide +kernel
theorem dX11_most_12 : decode cX11_most 12 = .ok (.ireturn, 1) := by decide +kernel
theorem dX11_most_13 : decode cX11_most 13 = .ok (.aload_n 0, 1) := by decide +kernel
theorem dX11_most_14 : decode cX11_most 14 = .ok (.getfield 10, 3) := by decide +kernel
theorem dX11_most_17 : decode cX11_most 17 = .ok (.iload_n 1, 1) := by decide +kernel
theorem dX11_most_18 : decode cX11_most 18 = .ok (.invokestatic 220, 3) := by decide +kernel
theorem dX11_most_21 : decode cX11_most 21 = .ok (.ireturn, 1) := by decide +kernel
theorem dX11_cellar_0 : decode cX11_cellar 0 = .ok (.aload_n 0, 1) := by decide +kernel
theorem dX11_cellar_1 : decode cX11_cellar 1 = .ok (.getfield 10, 3) := by decide +kernel
theorem dX11_cellar_4 : decode cX11_cellar 4 = .ok (.iload_n 1, 1) := by decide +kernel
theorem dX11_cellar_5 : decode cX11_cellar 5 = .ok (.invokevirtual 70, 3) := by decide +kernel
theorem dX11_cellar_8 : decode cX11_cellar 8 = .ok (.ifCond .eq 10, 3) := by decide +kernel
theorem dX11_cellar_11 : decode cX11_cellar 11 = .ok (.iload_n 2, 1) := by decide +kernel
theorem dX11_cellar_12 : decode cX11_cellar 12 = .ok (.invokestatic 111, 3) := by decide +kernel
theorem dX11_cellar_15 : decode cX11_cellar 15 = .ok (.ifCond .ne 12, 3) := by decide +kernel
theorem dX11_cellar_18 : decode cX11_cellar 18 = .ok (.ldc 223, 2) := by decide +kernel
theorem dX11_cellar_20 : decode cX11_cellar 20 = .ok (.aload_n 0, 1) := by decide +kernel
theorem dX11_cellar_21 : decode cX11_cellar 21 = .ok (.iconst (-1), 1) := by decide +kernel
theorem dX11_cellar_22 : decode cX11_cellar 22 = .ok (.invokevirtual 46, 3) := by decide +kernel
theorem dX11_cellar_25 : decode cX11_cellar 25 = .ok (.isub, 1) := by decide +kernel
theorem dX11_cellar_26 : decode cX11_cellar 26 = .ok (.ireturn, 1) := by decide +kernel
theorem dX11_cellar_27 : decode cX11_cellar 27 = .ok (.iload_n 3, 1) := by decide +kernel
theorem dX11_cellar_28 : decode cX11_cellar 28 = .ok (.ifCond .ge 13, 3) := by decide +kernel
theorem dX11_cellar_31 : decode cX11_cellar 31 = .ok (.ldc 223, 2) := by decide +kernel
theorem dX11_cellar_33 : decode cX11_cellar 33 = .ok (.aload_n 0, 1) := by decide +kernel
theorem dX11_cellar_34 : decode cX11_cellar 34 = .ok (.bipush (-4), 2) := by decide +kernel
theorem dX11_cellar_36 : decode cX11_cellar 36 = .ok (.invokevirtual 46, 3) := by decide +kernel
theorem dX11_cellar_39 : decode cX11_cellar 39 = .ok (.isub, 1) := by decide +kernel
theorem dX11_cellar_40 : decode cX11_cellar 40 = .ok (.ireturn, 1) := by decide +kernel
theorem dX11_cellar_41 : decode cX11_cellar 41 = .ok (.iload_n 3, 1) := by decide +kernel
theorem dX11_cellar_42 : decode cX11_cellar 42 = .ok (.bipush 9, 2) := by decide +kernel
theorem dX11_cellar_44 : decode cX11_cellar 44 = .ok (.if_icmp .le 13, 3) := by decide +kernel
theorem dX11_cellar_47 : decode cX11_cellar 47 = .ok (.ldc 223, 2) := by decide +kernel
theorem dX11_cellar_49 : decode cX11_cellar 49 = .ok (.aload_n 0, 1) := by decide +kernel
theorem dX11_cellar_50 : decode cX11_cellar 50 = .ok (.bipush (-6), 2) := by decide +kernel
theorem dX11_cellar_52 : decode cX11_cellar 52 = .ok (.invokevirtual 46, 3) := by decide +kernel
theorem dX11_cellar_55 : decode cX11_cellar 55 = .ok (.isub, 1) := by decide +kernel
theorem dX11_cellar_56 : decode cX11_cellar 56 = .ok (.ireturn, 1) := by decide +kernel
theorem dX11_cellar_57 : decode cX11_cellar 57 = .ok (.aload_n 0, 1) := by decide +kernel
theorem dX11_cellar_58 : decode cX11_cellar 58 = .ok (.getfield 16, 3) := by decide +kernel
theorem dX11_cellar_61 : decode cX11_cellar 61 = .ok (.aload_n 0, 1) := by decide +kernel
theorem dX11_cellar_62 : decode cX11_cellar 62 = .ok (.getfield 10, 3) := by decide +kernel
theorem dX11_cellar_65 : decode cX11_cellar 65 = .ok (.invokevirtual 62, 3) := by decide +kernel
theorem dX11_cellar_68 : decode cX11_cellar 68 = .ok (.aload_n 0, 1) := by decide +kernel
theorem dX11_cellar_69 : decode cX11_cellar 69 = .ok (.getfield 16, 3) := by decide +kernel
theorem dX11_cellar_72 : decode cX11_cellar 72 = .ok (.getfield 74, 3) := by decide +kernel
theorem dX11_cellar_75 : decode cX11_cellar 75 = .ok (.iload_n 1, 1) := by decide +kernel
theorem dX11_cellar_76 : decode cX11_cellar 76 = .ok (.aload_n 0, 1) := by decide +kernel
theorem dX11_cellar_77 : decode cX11_cellar 77 = .ok (.getfield 10, 3) := by decide +kernel
theorem dX11_cellar_80 : decode cX11_cellar 80 = .ok (.getfield 74, 3) := by decide +kernel
theorem dX11_cellar_83 : decode cX11_cellar 83 = .ok (.iload_n 1, 1) := by decide +kernel
theorem dX11_cellar_84 : decode cX11_cellar 84 = .ok (.aaload, 1) := by decide +kernel
theorem dX11_cellar_85 : decode cX11_cellar 85 = .ok (.iload_n 3, 1) := by decide +kernel
theorem dX11_cellar_86 : decode cX11_cellar 86 = .ok (.invokestatic 224, 3) := by decide +kernel
theorem dX11_cellar_89 : decode cX11_cellar 89 = .ok (.aastore, 1) := by decide +kernel
theorem dX11_cellar_90 : decode cX11_cellar 90 = .ok (.aload_n 0, 1) := by decide +kernel
theorem dX11_cellar_91 : decode cX11_cellar 91 = .ok (.getfield 16, 3) := by decide +kernel
theorem dX11_cellar_94 : decode cX11_cellar 94 = .ok (.iload_n 2, 1) := by decide +kernel
theorem dX11_cellar_95 : decode cX11_cellar 95 = .ok (.invokestatic 220, 3) := by decide +kernel
theorem dX11_cellar_98 : decode cX11_cellar 98 = .ok (.aload_n 0, 1) := by decide +kernel
theorem dX11_cellar_99 : decode cX11_cellar 99 = .ok (.getfield 10, 3) := by decide +kernel
theorem dX11_cellar_102 : decode cX11_cellar 102 = .ok (.iload_n 2, 1) := by decide +kernel
theorem dX11_cellar_103 : decode cX11_cellar 103 = .ok (.invokestatic 220, 3) := by decide +kernel
theorem dX11_cellar_106 : decode cX11_cellar 106 = .ok (.isub, 1) := by decide +kernel
theorem dX11_cellar_107 : decode cX11_cellar 107 = .ok (.ireturn, 1) := by decide +kernel
theorem dX11_paths_0 : decode cX11_paths 0 = .ok (.aload_n 0, 1) := by decide +kernel
theorem dX11_paths_1 : decode cX11_paths 1 = .ok (.getfield 10, 3) := by decide +kernel
theorem dX11_paths_4 : decode cX11_paths 4 = .ok (.iload_n 1, 1) := by decide +kernel
theorem dX11_paths_5 : decode cX11_paths 5 = .ok (.iload_n 2, 1) := by decide +kernel
theorem dX11_paths_6 : decode cX11_paths 6 = .ok (.invokevirtual 127, 3) := by decide +kernel
theorem dX11_paths_9 : decode cX11_paths 9 = .ok (.ifCond .ne 9, 3) := by decide +kernel
theorem dX11_paths_12 : decode cX11_paths 12 = .ok (.aload_n 0, 1) := by decide +kernel
theorem dX11_paths_13 : decode cX11_paths 13 = .ok (.iconst (-1), 1) := by decide +kernel
theorem dX11_paths_14 : decode cX11_paths 14 = .ok (.invokevirtual 46, 3) := by decide +kernel
theorem dX11_paths_17 : decode cX11_paths 17 = .ok (.ireturn, 1) := by decide +kernel
theorem dX11_paths_18 : decode cX11_paths 18 = .ok (.iload_n 3, 1) := by decide +kernel
theorem dX11_paths_19 : decode cX11_paths 19 = .ok (.ifCond .lt 8, 3) := by decide +kernel
theorem dX11_paths_22 : decode cX11_paths 22 = .ok (.iload_n 3, 1) := by decide +kernel
theorem dX11_paths_23 : decode cX11_paths 23 = .ok (.iconst 1, 1) := by decide +kernel
theorem dX11_paths_24 : decode cX11_paths 24 = .ok (.if_icmp .le 10, 3) := by decide +kernel
theorem dX11_paths_27 : decode cX11_paths 27 = .ok (.aload_n 0, 1) := by decide +kernel
theorem dX11_paths_28 : decode cX11_paths 28 = .ok (.bipush (-2), 2) := by decide +kernel
theorem dX11_paths_30 : decode cX11_paths 30 = .ok (.invokevirtual 46, 3) := by decide +kernel
theorem dX11_paths_33 : decode cX11_paths 33 = .ok (.ireturn, 1) := by decide +kernel
theorem dX11_paths_34 : decode cX11_paths 34 = .ok (.iload_n 3, 1) := by decide +kernel
theorem dX11_paths_35 : decode cX11_paths 35 = .ok (.ifCond .ne 15, 3) := by decide +kernel
theorem dX11_paths_38 : decode cX11_paths 38 = .ok (.aload_n 0, 1) := by decide +kernel
theorem dX11_paths_39 : decode cX11_paths 39 = .ok (.getfield 10, 3) := by decide +kernel
theorem dX11_paths_42 : decode cX11_paths 42 = .ok (.iload_n 1, 1) := by decide +kernel
theorem dX11_paths_43 : decode cX11_paths 43 = .ok (.iload_n 2, 1) := by decide +kernel
theorem dX11_paths_44 : decode cX11_paths 44 = .ok (.invokestatic 230, 3) := by decide +kernel
theorem dX11_paths_47 : decode cX11_paths 47 = .ok (.goto 12, 3) := by decide +kernel
theorem dX11_paths_50 : decode cX11_paths 50 = .ok (.aload_n 0, 1) := by decide +kernel
theorem dX11_paths_51 : decode cX11_paths 51 = .ok (.getfield 10, 3) := by decide +kernel
theorem dX11_paths_54 : decode cX11_paths 54 = .ok (.iload_n 1, 1) := by decide +kernel
theorem dX11_paths_55 : decode cX11_paths 55 = .ok (.iload_n 2, 1) := by decide +kernel
theorem dX11_paths_56 : decode cX11_paths 56 = .ok (.invokestatic 234, 3) := by decide +kernel
theorem dX11_paths_59 : decode cX11_paths 59 = .ok (.ireturn, 1) := by decide +kernel
theorem dX11_owed_0 : decode cX11_owed 0 = .ok (.aload_n 0, 1) := by decide +kernel
theorem dX11_owed_1 : decode cX11_owed 1 = .ok (.getfield 10, 3) := by decide +kernel
theorem dX11_owed_4 : decode cX11_owed 4 = .ok (.iload_n 1, 1) := by decide +kernel
theorem dX11_owed_5 : decode cX11_owed 5 = .ok (.invokevirtual 70, 3) := by decide +kernel
theorem dX11_owed_8 : decode cX11_owed 8 = .ok (.ifCond .ne 12, 3) := by decide +kernel
theorem dX11_owed_11 : decode cX11_owed 11 = .ok (.ldc 223, 2) := by decide +kernel
theorem dX11_owed_13 : decode cX11_owed 13 = .ok (.aload_n 0, 1) := by decide +kernel
theorem dX11_owed_14 : decode cX11_owed 14 = .ok (.iconst (-1), 1) := by decide +kernel
theorem dX11_owed_15 : decode cX11_owed 15 = .ok (.invokevirtual 46, 3) := by decide +kernel
theorem dX11_owed_18 : decode cX11_owed 18 = .ok (.isub, 1) := by decide +kernel
theorem dX11_owed_19 : decode cX11_owed 19 = .ok (.ireturn, 1) := by decide +kernel
theorem dX11_owed_20 : decode cX11_owed 20 = .ok (.aload_n 0, 1) := by decide +kernel
theorem dX11_owed_21 : decode cX11_owed 21 = .ok (.getfield 10, 3) := by decide +kernel
theorem dX11_owed_24 : decode cX11_owed 24 = .ok (.getfield 145, 3) := by decide +kernel
theorem dX11_owed_27 : decode cX11_owed 27 = .ok (.iload_n 1, 1) := by decide +kernel
theorem dX11_owed_28 : decode cX11_owed 28 = .ok (.invokevirtual 237, 3) := by decide +kernel
theorem dX11_owed_31 : decode cX11_owed 31 = .ok (.ireturn, 1) := by decide +kernel
theorem dX11_row_0 : decode cX11_row 0 = .ok (.iload_n 1, 1) := by decide +kernel
theorem dX11_row_1 : decode cX11_row 1 = .ok (.ifCond .ge 10, 3) := by decide +kernel
theorem dX11_row_4 : decode cX11_row 4 = .ok (.aload_n 0, 1) := by decide +kernel
theorem dX11_row_5 : decode cX11_row 5 = .ok (.bipush (-4), 2) := by decide +kernel
theorem dX11_row_7 : decode cX11_row 7 = .ok (.invokevirtual 46, 3) := by decide +kernel
theorem dX11_row_10 : decode cX11_row 10 = .ok (.ireturn, 1) := by decide +kernel
theorem dX11_row_11 : decode cX11_row 11 = .ok (.iload_n 1, 1) := by decide +kernel
theorem dX11_row_12 : decode cX11_row 12 = .ok (.sipush 999, 3) := by decide +kernel
theorem dX11_row_15 : decode cX11_row 15 = .ok (.if_icmp .gt 12, 3) := by decide +kernel
theorem dX11_row_18 : decode cX11_row 18 = .ok (.aload_n 0, 1) := by decide +kernel
theorem dX11_row_19 : decode cX11_row 19 = .ok (.getfield 154, 3) := by decide +kernel
theorem dX11_row_22 : decode cX11_row 22 = .ok (.bipush 8, 2) := by decide +kernel
theorem dX11_row_24 : decode cX11_row 24 = .ok (.if_icmp .lt 10, 3) := by decide +kernel
theorem dX11_row_27 : decode cX11_row 27 = .ok (.aload_n 0, 1) := by decide +kernel
theorem dX11_row_28 : decode cX11_row 28 = .ok (.bipush (-6), 2) := by decide +kernel
theorem dX11_row_30 : decode cX11_row 30 = .ok (.invokevirtual 46, 3) := by decide +kernel
theorem dX11_row_33 : decode cX11_row 33 = .ok (.ireturn, 1) := by decide +kernel
theorem dX11_row_34 : decode cX11_row 34 = .ok (.aload_n 0, 1) := by decide +kernel
theorem dX11_row_35 : decode cX11_row 35 = .ok (.getfield 39, 3) := by decide +kernel
theorem dX11_row_38 : decode cX11_row 38 = .ok (.aload_n 0, 1) := by decide +kernel
theorem dX11_row_39 : decode cX11_row 39 = .ok (.getfield 154, 3) := by decide +kernel
theorem dX11_row_42 : decode cX11_row 42 = .ok (.iload_n 1, 1) := by decide +kernel
theorem dX11_row_43 : decode cX11_row 43 = .ok (.iastore, 1) := by decide +kernel
theorem dX11_row_44 : decode cX11_row 44 = .ok (.aload_n 0, 1) := by decide +kernel
theorem dX11_row_45 : decode cX11_row 45 = .ok (.dup, 1) := by decide +kernel
theorem dX11_row_46 : decode cX11_row 46 = .ok (.getfield 154, 3) := by decide +kernel
theorem dX11_row_49 : decode cX11_row 49 = .ok (.iconst 1, 1) := by decide +kernel
theorem dX11_row_50 : decode cX11_row 50 = .ok (.iadd, 1) := by decide +kernel
theorem dX11_row_51 : decode cX11_row 51 = .ok (.putfield 154, 3) := by decide +kernel
theorem dX11_row_54 : decode cX11_row 54 = .ok (.aload_n 0, 1) := by decide +kernel
theorem dX11_row_55 : decode cX11_row 55 = .ok (.getfield 154, 3) := by decide +kernel
theorem dX11_row_58 : decode cX11_row 58 = .ok (.ireturn, 1) := by decide +kernel
theorem dX11_judge_0 : decode cX11_judge 0 = .ok (.aload_n 0, 1) := by decide +kernel
theorem dX11_judge_1 : decode cX11_judge 1 = .ok (.getfield 16, 3) := by decide +kernel
theorem dX11_judge_4 : decode cX11_judge 4 = .ok (.aload_n 0, 1) := by decide +kernel
theorem dX11_judge_5 : decode cX11_judge 5 = .ok (.getfield 10, 3) := by decide +kernel
theorem dX11_judge_8 : decode cX11_judge 8 = .ok (.invokevirtual 62, 3) := by decide +kernel
theorem dX11_judge_11 : decode cX11_judge 11 = .ok (.bipush (-9), 2) := by decide +kernel
theorem dX11_judge_13 : decode cX11_judge 13 = .ok (.istore_n 1, 1) := by decide +kernel
theorem dX11_judge_14 : decode cX11_judge 14 = .ok (.iconst 0, 1) := by decide +kernel
theorem dX11_judge_15 : decode cX11_judge 15 = .ok (.istore_n 2, 1) := by decide +kernel
theorem dX11_judge_16 : decode cX11_judge 16 = .ok (.iload_n 2, 1) := by decide +kernel
theorem dX11_judge_17 : decode cX11_judge 17 = .ok (.aload_n 0, 1) := by decide +kernel
theorem dX11_judge_18 : decode cX11_judge 18 = .ok (.getfield 154, 3) := by decide +kernel
theorem dX11_judge_21 : decode cX11_judge 21 = .ok (.if_icmp .ge 49, 3) := by decide +kernel
theorem dX11_judge_24 : decode cX11_judge 24 = .ok (.iload_n 1, 1) := by decide +kernel
theorem dX11_judge_25 : decode cX11_judge 25 = .ok (.bipush (-9), 2) := by decide +kernel
theorem dX11_judge_27 : decode cX11_judge 27 = .ok (.if_icmp .ne 43, 3) := by decide +kernel
theorem dX11_judge_30 : decode cX11_judge 30 = .ok (.aload_n 0, 1) := by decide +kernel
theorem dX11_judge_31 : decode cX11_judge 31 = .ok (.getfield 39, 3) := by decide +kernel
theorem dX11_judge_34 : decode cX11_judge 34 = .ok (.iload_n 2, 1) := by decide +kernel
theorem dX11_judge_35 : decode cX11_judge 35 = .ok (.iaload, 1) := by decide +kernel
theorem dX11_judge_36 : decode cX11_judge 36 = .ok (.istore_n 3, 1) := by decide +kernel
theorem dX11_judge_37 : decode cX11_judge 37 = .ok (.aload_n 0, 1) := by decide +kernel
theorem dX11_judge_38 : decode cX11_judge 38 = .ok (.getfield 16, 3) := by decide +kernel
theorem dX11_judge_41 : decode cX11_judge 41 = .ok (.iload_n 3, 1) := by decide +kernel
theorem dX11_judge_42 : decode cX11_judge 42 = .ok (.bipush 100, 2) := by decide +kernel
theorem dX11_judge_44 : decode cX11_judge 44 = .ok (.idiv, 1) := by decide +kernel
theorem dX11_judge_45 : decode cX11_judge 45 = .ok (.iload_n 3, 1) := by decide +kernel
theorem dX11_judge_46 : decode cX11_judge 46 = .ok (.bipush 10, 2) := by decide +kernel
theorem dX11_judge_48 : decode cX11_judge 48 = .ok (.idiv, 1) := by decide +kernel
theorem dX11_judge_49 : decode cX11_judge 49 = .ok (.bipush 10, 2) := by decide +kernel
theorem dX11_judge_51 : decode cX11_judge 51 = .ok (.irem, 1) := by decide +kernel
theorem dX11_judge_52 : decode cX11_judge 52 = .ok (.iload_n 3, 1) := by decide +kernel
theorem dX11_judge_53 : decode cX11_judge 53 = .ok (.bipush 10, 2) := by decide +kernel
theorem dX11_judge_55 : decode cX11_judge 55 = .ok (.irem, 1) := by decide +kernel
theorem dX11_judge_56 : decode cX11_judge 56 = .ok (.invokevirtual 165, 3) := by decide +kernel
theorem dX11_judge_59 : decode cX11_judge 59 = .ok (.ifCond .ne 5, 3) := by decide +kernel
theorem dX11_judge_62 : decode cX11_judge 62 = .ok (.iload_n 2, 1) := by decide +kernel
theorem dX11_judge_63 : decode cX11_judge 63 = .ok (.istore_n 1, 1) := by decide +kernel
theorem dX11_judge_64 : decode cX11_judge 64 = .ok (.iinc 2 1, 3) := by decide +kernel
theorem dX11_judge_67 : decode cX11_judge 67 = .ok (.goto (-51), 3) := by decide +kernel
theorem dX11_judge_70 : decode cX11_judge 70 = .ok (.aload_n 0, 1) := by decide +kernel
theorem dX11_judge_71 : decode cX11_judge 71 = .ok (.iconst 0, 1) := by decide +kernel
theorem dX11_judge_72 : decode cX11_judge 72 = .ok (.putfield 154, 3) := by decide +kernel
theorem dX11_judge_75 : decode cX11_judge 75 = .ok (.iload_n 1, 1) := by decide +kernel
theorem dX11_judge_76 : decode cX11_judge 76 = .ok (.ireturn, 1) := by decide +kernel
theorem dX11_image_0 : decode cX11_image 0 = .ok (.aload_n 0, 1) := by decide +kernel
theorem dX11_image_1 : decode cX11_image 1 = .ok (.getfield 19, 3) := by decide +kernel
theorem dX11_image_4 : decode cX11_image 4 = .ok (.aload_n 0, 1) := by decide +kernel
theorem dX11_image_5 : decode cX11_image 5 = .ok (.getfield 10, 3) := by decide +kernel
theorem dX11_image_8 : decode cX11_image 8 = .ok (.invokevirtual 62, 3) := by decide +kernel
theorem dX11_image_11 : decode cX11_image 11 = .ok (.aload_n 0, 1) := by decide +kernel
theorem dX11_image_12 : decode cX11_image 12 = .ok (.iconst 1, 1) := by decide +kernel
theorem dX11_image_13 : decode cX11_image 13 = .ok (.putfield 240, 3) := by decide +kernel
theorem dX11_image_16 : decode cX11_image 16 = .ok (.aload_n 0, 1) := by decide +kernel
theorem dX11_image_17 : decode cX11_image 17 = .ok (.getfield 10, 3) := by decide +kernel
theorem dX11_image_20 : decode cX11_image 20 = .ok (.getfield 135, 3) := by decide +kernel
theorem dX11_image_23 : decode cX11_image 23 = .ok (.ireturn, 1) := by decide +kernel
theorem dX11_restore_0 : decode cX11_restore 0 = .ok (.aload_n 0, 1) := by decide +kernel
theorem dX11_restore_1 : decode cX11_restore 1 = .ok (.getfield 240, 3) := by decide +kernel
theorem dX11_restore_4 : decode cX11_restore 4 = .ok (.ifCond .ne 10, 3) := by decide +kernel
theorem dX11_restore_7 : decode cX11_restore 7 = .ok (.aload_n 0, 1) := by decide +kernel
theorem dX11_restore_8 : decode cX11_restore 8 = .ok (.bipush (-3), 2) := by decide +kernel
theorem dX11_restore_10 : decode cX11_restore 10 = .ok (.invokevirtual 46, 3) := by decide +kernel
theorem dX11_restore_13 : decode cX11_restore 13 = .ok (.ireturn, 1) := by decide +kernel
theorem dX11_restore_14 : decode cX11_restore 14 = .ok (.aload_n 0, 1) := by decide +kernel
theorem dX11_restore_15 : decode cX11_restore 15 = .ok (.getfield 10, 3) := by decide +kernel
theorem dX11_restore_18 : decode cX11_restore 18 = .ok (.aload_n 0, 1) := by decide +kernel
theorem dX11_restore_19 : decode cX11_restore 19 = .ok (.getfield 19, 3) := by decide +kernel
theorem dX11_restore_22 : decode cX11_restore 22 = .ok (.invokevirtual 62, 3) := by decide +kernel
theorem dX11_restore_25 : decode cX11_restore 25 = .ok (.aload_n 0, 1) := by decide +kernel
theorem dX11_restore_26 : decode cX11_restore 26 = .ok (.getfield 10, 3) := by decide +kernel
theorem dX11_restore_29 : decode cX11_restore 29 = .ok (.getfield 135, 3) := by decide +kernel
theorem dX11_restore_32 : decode cX11_restore 32 = .ok (.ireturn, 1) := by decide +kernel
theorem dX11_refuse_0 : decode cX11_refuse 0 = .ok (.iload_n 1, 1) := by decide +kernel
theorem dX11_refuse_1 : decode cX11_refuse 1 = .ok (.ineg, 1) := by decide +kernel
theorem dX11_refuse_2 : decode cX11_refuse 2 = .ok (.istore_n 2, 1) := by decide +kernel
theorem dX11_refuse_3 : decode cX11_refuse 3 = .ok (.iload_n 2, 1) := by decide +kernel
theorem dX11_refuse_4 : decode cX11_refuse 4 = .ok (.ifCond .lt 22, 3) := by decide +kernel
theorem dX11_refuse_7 : decode cX11_refuse 7 = .ok (.iload_n 2, 1) := by decide +kernel
theorem dX11_refuse_8 : decode cX11_refuse 8 = .ok (.aload_n 0, 1) := by decide +kernel
theorem dX11_refuse_9 : decode cX11_refuse 9 = .ok (.getfield 43, 3) := by decide +kernel
theorem dX11_refuse_12 : decode cX11_refuse 12 = .ok (.arraylength, 1) := by decide +kernel
theorem dX11_refuse_13 : decode cX11_refuse 13 = .ok (.if_icmp .ge 13, 3) := by decide +kernel
theorem dX11_refuse_16 : decode cX11_refuse 16 = .ok (.aload_n 0, 1) := by decide +kernel
theorem dX11_refuse_17 : decode cX11_refuse 17 = .ok (.getfield 43, 3) := by decide +kernel
theorem dX11_refuse_20 : decode cX11_refuse 20 = .ok (.iload_n 2, 1) := by decide +kernel
theorem dX11_refuse_21 : decode cX11_refuse 21 = .ok (.dup2, 1) := by decide +kernel
theorem dX11_refuse_22 : decode cX11_refuse 22 = .ok (.iaload, 1) := by decide +kernel
theorem dX11_refuse_23 : decode cX11_refuse 23 = .ok (.iconst 1, 1) := by decide +kernel
theorem dX11_refuse_24 : decode cX11_refuse 24 = .ok (.iadd, 1) := by decide +kernel
theorem dX11_refuse_25 : decode cX11_refuse 25 = .ok (.iastore, 1) := by decide +kernel
theorem dX11_refuse_26 : decode cX11_refuse 26 = .ok (.iload_n 1, 1) := by decide +kernel
theorem dX11_refuse_27 : decode cX11_refuse 27 = .ok (.ireturn, 1) := by decide +kernel
theorem dX11_isGood_0 : decode cX11_isGood 0 = .ok (.iload_n 0, 1) := by decide +kernel
theorem dX11_isGood_1 : decode cX11_isGood 1 = .ok (.ifCond .lt 12, 3) := by decide +kernel
theorem dX11_isGood_4 : decode cX11_isGood 4 = .ok (.iload_n 0, 1) := by decide +kernel
theorem dX11_isGood_5 : decode cX11_isGood 5 = .ok (.iconst 3, 1) := by decide +kernel
theorem dX11_isGood_6 : decode cX11_isGood 6 = .ok (.if_icmp .ge 7, 3) := by decide +kernel
theorem dX11_isGood_9 : decode cX11_isGood 9 = .ok (.iconst 1, 1) := by decide +kernel
theorem dX11_isGood_10 : decode cX11_isGood 10 = .ok (.goto 4, 3) := by decide +kernel
theorem dX11_isGood_13 : decode cX11_isGood 13 = .ok (.iconst 0, 1) := by decide +kernel
theorem dX11_isGood_14 : decode cX11_isGood 14 = .ok (.ireturn, 1) := by decide +kernel
theorem dX11_isLaw_0 : decode cX11_isLaw 0 = .ok (.iload_n 0, 1) := by decide +kernel
theorem dX11_isLaw_1 : decode cX11_isLaw 1 = .ok (.ifCond .eq 13, 3) := by decide +kernel
theorem dX11_isLaw_4 : decode cX11_isLaw 4 = .ok (.iload_n 0, 1) := by decide +kernel
theorem dX11_isLaw_5 : decode cX11_isLaw 5 = .ok (.iconst 1, 1) := by decide +kernel
theorem dX11_isLaw_6 : decode cX11_isLaw 6 = .ok (.if_icmp .eq 8, 3) := by decide +kernel
theorem dX11_isLaw_9 : decode cX11_isLaw 9 = .ok (.iload_n 0, 1) := by decide +kernel
theorem dX11_isLaw_10 : decode cX11_isLaw 10 = .ok (.iconst 2, 1) := by decide +kernel
theorem dX11_isLaw_11 : decode cX11_isLaw 11 = .ok (.if_icmp .ne 7, 3) := by decide +kernel
theorem dX11_isLaw_14 : decode cX11_isLaw 14 = .ok (.iconst 1, 1) := by decide +kernel
theorem dX11_isLaw_15 : decode cX11_isLaw 15 = .ok (.goto 4, 3) := by decide +kernel
theorem dX11_isLaw_18 : decode cX11_isLaw 18 = .ok (.iconst 0, 1) := by decide +kernel
theorem dX11_isLaw_19 : decode cX11_isLaw 19 = .ok (.ireturn, 1) := by decide +kernel
theorem dX11_sumOf_0 : decode cX11_sumOf 0 = .ok (.iconst 0, 1) := by decide +kernel
theorem dX11_sumOf_1 : decode cX11_sumOf 1 = .ok (.istore_n 1, 1) := by decide +kernel
theorem dX11_sumOf_2 : decode cX11_sumOf 2 = .ok (.aload_n 0, 1) := by decide +kernel
theorem dX11_sumOf_3 : decode cX11_sumOf 3 = .ok (.astore_n 2, 1) := by decide +kernel
theorem dX11_sumOf_4 : decode cX11_sumOf 4 = .ok (.aload_n 2, 1) := by decide +kernel
theorem dX11_sumOf_5 : decode cX11_sumOf 5 = .ok (.arraylength, 1) := by decide +kernel
theorem dX11_sumOf_6 : decode cX11_sumOf 6 = .ok (.istore_n 3, 1) := by decide +kernel
theorem dX11_sumOf_7 : decode cX11_sumOf 7 = .ok (.iconst 0, 1) := by decide +kernel
theorem dX11_sumOf_8 : decode cX11_sumOf 8 = .ok (.istore 4, 2) := by decide +kernel
theorem dX11_sumOf_10 : decode cX11_sumOf 10 = .ok (.iload 4, 2) := by decide +kernel
theorem dX11_sumOf_12 : decode cX11_sumOf 12 = .ok (.iload_n 3, 1) := by decide +kernel
theorem dX11_sumOf_13 : decode cX11_sumOf 13 = .ok (.if_icmp .ge 20, 3) := by decide +kernel
theorem dX11_sumOf_16 : decode cX11_sumOf 16 = .ok (.aload_n 2, 1) := by decide +kernel
theorem dX11_sumOf_17 : decode cX11_sumOf 17 = .ok (.iload 4, 2) := by decide +kernel
theorem dX11_sumOf_19 : decode cX11_sumOf 19 = .ok (.iaload, 1) := by decide +kernel
theorem dX11_sumOf_20 : decode cX11_sumOf 20 = .ok (.istore 5, 2) := by decide +kernel
theorem dX11_sumOf_22 : decode cX11_sumOf 22 = .ok (.iload_n 1, 1) := by decide +kernel
theorem dX11_sumOf_23 : decode cX11_sumOf 23 = .ok (.iload 5, 2) := by decide +kernel
theorem dX11_sumOf_25 : decode cX11_sumOf 25 = .ok (.iadd, 1) := by decide +kernel
theorem dX11_sumOf_26 : decode cX11_sumOf 26 = .ok (.istore_n 1, 1) := by decide +kernel
theorem dX11_sumOf_27 : decode cX11_sumOf 27 = .ok (.iinc 4 1, 3) := by decide +kernel
theorem dX11_sumOf_30 : decode cX11_sumOf 30 = .ok (.goto (-20), 3) := by decide +kernel
theorem dX11_sumOf_33 : decode cX11_sumOf 33 = .ok (.iload_n 1, 1) := by decide +kernel
theorem dX11_sumOf_34 : decode cX11_sumOf 34 = .ok (.ireturn, 1) := by decide +kernel
theorem dJ9_max_7cf53_0 : decode cJ9_max_7cf53 0 = .ok (.iload_n 0, 1) := by decide +kernel
theorem dJ9_max_7cf53_1 : decode cJ9_max_7cf53 1 = .ok (.iload_n 1, 1) := by decide +kernel
theorem dJ9_max_7cf53_2 : decode cJ9_max_7cf53 2 = .ok (.if_icmp .lt 7, 3) := by decide +kernel
theorem dJ9_max_7cf53_5 : decode cJ9_max_7cf53 5 = .ok (.iload_n 0, 1) := by decide +kernel
theorem dJ9_max_7cf53_6 : decode cJ9_max_7cf53 6 = .ok (.goto 4, 3) := by decide +kernel
theorem dJ9_max_7cf53_9 : decode cJ9_max_7cf53 9 = .ok (.iload_n 1, 1) := by decide +kernel
theorem dJ9_max_7cf53_10 : decode cJ9_max_7cf53 10 = .ok (.ireturn, 1) := by decide +kernel
theorem dJ9_min_7cf53_0 : decode cJ9_min_7cf53 0 = .ok (.iload_n 0, 1) := by decide +kernel
theorem dJ9_min_7cf53_1 : decode cJ9_min_7cf53 1 = .ok (.iload_n 1, 1) := by decide +kernel
theorem dJ9_min_7cf53_2 : decode cJ9_min_7cf53 2 = .ok (.if_icmp .gt 7, 3) := by decide +kernel
theorem dJ9_min_7cf53_5 : decode cJ9_min_7cf53 5 = .ok (.iload_n 0, 1) := by decide +kernel
theorem dJ9_min_7cf53_6 : decode cJ9_min_7cf53 6 = .ok (.goto 4, 3) := by decide +kernel
theorem dJ9_min_7cf53_9 : decode cJ9_min_7cf53 9 = .ok (.iload_n 1, 1) := by decide +kernel
theorem dJ9_min_7cf53_10 : decode cJ9_min_7cf53 10 = .ok (.ireturn, 1) := by decide +kernel
