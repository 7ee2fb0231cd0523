theorem dX12_init_0 : decode cX12_init 0 = .ok (.aload_n 0, 1) := by decide +kernel
theorem dX12_init_1 : decode cX12_init 1 = .ok (.invokespecial 1, 3) := by decide +kernel
theorem dX12_init_4 : decode cX12_init 4 = .ok (.aload_n 0, 1) := by decide +kernel
theorem dX12_init_5 : decode cX12_init 5 = .ok (.bipush 6, 2) := by decide +kernel
theorem dX12_init_7 : decode cX12_init 7 = .ok (.newarray .int, 2) := by decide +kernel
theorem dX12_init_9 : decode cX12_init 9 = .ok (.putfield 7, 3) := by decide +kernel
theorem dX12_init_12 : decode cX12_init 12 = .ok (.aload_n 0, 1) := by decide +kernel
theorem dX12_init_13 : decode cX12_init 13 = .ok (.bipush 6, 2) := by decide +kernel
theorem dX12_init_15 : decode cX12_init 15 = .ok (.newarray .int, 2) := by decide +kernel
theorem dX12_init_17 : decode cX12_init 17 = .ok (.putfield 13, 3) := by decide +kernel
theorem dX12_init_20 : decode cX12_init 20 = .ok (.aload_n 0, 1) := by decide +kernel
theorem dX12_init_21 : decode cX12_init 21 = .ok (.bipush 6, 2) := by decide +kernel
theorem dX12_init_23 : decode cX12_init 23 = .ok (.newarray .int, 2) := by decide +kernel
theorem dX12_init_25 : decode cX12_init 25 = .ok (.putfield 16, 3) := by decide +kernel
theorem dX12_init_28 : decode cX12_init 28 = .ok (.aload_n 0, 1) := by decide +kernel
theorem dX12_init_29 : decode cX12_init 29 = .ok (.bipush 6, 2) := by decide +kernel
theorem dX12_init_31 : decode cX12_init 31 = .ok (.newarray .int, 2) := by decide +kernel
theorem dX12_init_33 : decode cX12_init 33 = .ok (.putfield 19, 3) := by decide +kernel
theorem dX12_init_36 : decode cX12_init 36 = .ok (.aload_n 0, 1) := by decide +kernel
theorem dX12_init_37 : decode cX12_init 37 = .ok (.bipush 6, 2) := by decide +kernel
theorem dX12_init_39 : decode cX12_init 39 = .ok (.newarray .int, 2) := by decide +kernel
theorem dX12_init_41 : decode cX12_init 41 = .ok (.putfield 22, 3) := by decide +kernel
theorem dX12_init_44 : decode cX12_init 44 = .ok (.aload_n 0, 1) := by decide +kernel
theorem dX12_init_45 : decode cX12_init 45 = .ok (.bipush 6, 2) := by decide +kernel
theorem dX12_init_47 : decode cX12_init 47 = .ok (.newarray .int, 2) := by decide +kernel
theorem dX12_init_49 : decode cX12_init 49 = .ok (.putfield 25, 3) := by decide +kernel
theorem dX12_init_52 : decode cX12_init 52 = .ok (.aload_n 0, 1) := by decide +kernel
theorem dX12_init_53 : decode cX12_init 53 = .ok (.bipush 6, 2) := by decide +kernel
theorem dX12_init_55 : decode cX12_init 55 = .ok (.newarray .int, 2) := by decide +kernel
theorem dX12_init_57 : decode cX12_init 57 = .ok (.putfield 28, 3) := by decide +kernel
theorem dX12_init_60 : decode cX12_init 60 = .ok (.aload_n 0, 1) := by decide +kernel
theorem dX12_init_61 : decode cX12_init 61 = .ok (.bipush 6, 2) := by decide +kernel
theorem dX12_init_63 : decode cX12_init 63 = .ok (.newarray .int, 2) := by decide +kernel
theorem dX12_init_65 : decode cX12_init 65 = .ok (.putfield 31, 3) := by decide +kernel
theorem dX12_init_68 : decode cX12_init 68 = .ok (.aload_n 0, 1) := by decide +kernel
theorem dX12_init_69 : decode cX12_init 69 = .ok (.bipush 18, 2) := by decide +kernel
theorem dX12_init_71 : decode cX12_init 71 = .ok (.newarray .int, 2) := by decide +kernel
theorem dX12_init_73 : decode cX12_init 73 = .ok (.putfield 34, 3) := by decide +kernel
theorem dX12_init_76 : decode cX12_init 76 = .ok (.aload_n 0, 1) := by decide +kernel
theorem dX12_init_77 : decode cX12_init 77 = .ok (.bipush 36, 2) := by decide +kernel
theorem dX12_init_79 : decode cX12_init 79 = .ok (.newarray .int, 2) := by decide +kernel
theorem dX12_init_81 : decode cX12_init 81 = .ok (.putfield 37, 3) := by decide +kernel
theorem dX12_init_84 : decode cX12_init 84 = .ok (.aload_n 0, 1) := by decide +kernel
theorem dX12_init_85 : decode cX12_init 85 = .ok (.iconst 3, 1) := by decide +kernel
theorem dX12_init_86 : decode cX12_init 86 = .ok (.newarray .int, 2) := by decide +kernel
theorem dX12_init_88 : decode cX12_init 88 = .ok (.dup, 1) := by decide +kernel
theorem dX12_init_89 : decode cX12_init 89 = .ok (.iconst 0, 1) := by decide +kernel
theorem dX12_init_90 : decode cX12_init 90 = .ok (.iconst 1, 1) := by decide +kernel
theorem dX12_init_91 : decode cX12_init 91 = .ok (.iastore, 1) := by decide +kernel
theorem dX12_init_92 : decode cX12_init 92 = .ok (.dup, 1) := by decide +kernel
theorem dX12_init_93 : decode cX12_init 93 = .ok (.iconst 1, 1) := by decide +kernel
theorem dX12_init_94 : decode cX12_init 94 = .ok (.iconst 1, 1) := by decide +kernel
theorem dX12_init_95 : decode cX12_init 95 = .ok (.iastore, 1) := by decide +kernel
theorem dX12_init_96 : decode cX12_init 96 = .ok (.dup, 1) := by decide +kernel
theorem dX12_init_97 : decode cX12_init 97 = .ok (.iconst 2, 1) := by decide +kernel
theorem dX12_init_98 : decode cX12_init 98 = .ok (.iconst 1, 1) := by decide +kernel
theorem dX12_init_99 : decode cX12_init 99 = .ok (.iastore, 1) := by decide +kernel
theorem dX12_init_100 : decode cX12_init 100 = .ok (.putfield 40, 3) := by decide +kernel
theorem dX12_init_103 : decode cX12_init 103 = .ok (.aload_n 0, 1) := by decide +kernel
theorem dX12_init_104 : decode cX12_init 104 = .ok (.bipush 7, 2) := by decide +kernel
theorem dX12_init_106 : decode cX12_init 106 = .ok (.newarray .int, 2) := by decide +kernel
theorem dX12_init_108 : decode cX12_init 108 = .ok (.putfield 43, 3) := by decide +kernel
theorem dX12_init_111 : decode cX12_init 111 = .ok (.aload_n 0, 1) := by decide +kernel
theorem dX12_init_112 : decode cX12_init 112 = .ok (.bipush 6, 2) := by decide +kernel
theorem dX12_init_114 : decode cX12_init 114 = .ok (.newarray .int, 2) := by decide +kernel
theorem dX12_init_116 : decode cX12_init 116 = .ok (.putfield 46, 3) := by decide +kernel
theorem dX12_init_119 : decode cX12_init 119 = .ok (.aload_n 0, 1) := by decide +kernel
theorem dX12_init_120 : decode cX12_init 120 = .ok (.bipush 109, 2) := by decide +kernel
theorem dX12_init_122 : decode cX12_init 122 = .ok (.newarray .int, 2) := by decide +kernel
theorem dX12_init_124 : decode cX12_init 124 = .ok (.putfield 49, 3) := by decide +kernel
theorem dX12_init_127 : decode cX12_init 127 = .ok (.aload_n 0, 1) := by decide +kernel
theorem dX12_init_128 : decode cX12_init 128 = .ok (.bipush 109, 2) := by decide +kernel
theorem dX12_init_130 : decode cX12_init 130 = .ok (.newarray .int, 2) := by decide +kernel
theorem dX12_init_132 : decode cX12_init 132 = .ok (.putfield 52, 3) := by decide +kernel
theorem dX12_init_135 : decode cX12_init 135 = .ok (.aload_n 0, 1) := by decide +kernel
theorem dX12_init_136 : decode cX12_init 136 = .ok (.bipush 96, 2) := by decide +kernel
theorem dX12_init_138 : decode cX12_init 138 = .ok (.newarray .int, 2) := by decide +kernel
theorem dX12_init_140 : decode cX12_init 140 = .ok (.putfield 55, 3) := by decide +kernel
theorem dX12_init_143 : decode cX12_init 143 = .ok (.aload_n 0, 1) := by decide +kernel
theorem dX12_init_144 : decode cX12_init 144 = .ok (.bipush 49, 2) := by decide +kernel
theorem dX12_init_146 : decode cX12_init 146 = .ok (.newarray .int, 2) := by decide +kernel
theorem dX12_init_148 : decode cX12_init 148 = .ok (.putfield 58, 3) := by decide +kernel
theorem dX12_init_151 : decode cX12_init 151 = .ok (.aload_n 0, 1) := by decide +kernel
theorem dX12_init_152 : decode cX12_init 152 = .ok (.bipush 49, 2) := by decide +kernel
theorem dX12_init_154 : decode cX12_init 154 = .ok (.newarray .int, 2) := by decide +kernel
theorem dX12_init_156 : decode cX12_init 156 = .ok (.putfield 61, 3) := by decide +kernel
theorem dX12_init_159 : decode cX12_init 159 = .ok (.aload_n 0, 1) := by decide +kernel
theorem dX12_init_160 : decode cX12_init 160 = .ok (.sipush 441, 3) := by decide +kernel
theorem dX12_init_163 : decode cX12_init 163 = .ok (.newarray .int, 2) := by decide +kernel
theorem dX12_init_165 : decode cX12_init 165 = .ok (.putfield 64, 3) := by decide +kernel
theorem dX12_init_168 : decode cX12_init 168 = .ok (.aload_n 0, 1) := by decide +kernel
theorem dX12_init_169 : decode cX12_init 169 = .ok (.bipush 6, 2) := by decide +kernel
theorem dX12_init_171 : decode cX12_init 171 = .ok (.newarray .int, 2) := by decide +kernel
theorem dX12_init_173 : decode cX12_init 173 = .ok (.putfield 67, 3) := by decide +kernel
theorem dX12_init_176 : decode cX12_init 176 = .ok (.aload_n 0, 1) := by decide +kernel
theorem dX12_init_177 : decode cX12_init 177 = .ok (.bipush 8, 2) := by decide +kernel
theorem dX12_init_179 : decode cX12_init 179 = .ok (.newarray .int, 2) := by decide +kernel
theorem dX12_init_181 : decode cX12_init 181 = .ok (.putfield 70, 3) := by decide +kernel
theorem dX12_init_184 : decode cX12_init 184 = .ok (.aload_n 0, 1) := by decide +kernel
theorem dX12_init_185 : decode cX12_init 185 = .ok (.iconst 0, 1) := by decide +kernel
theorem dX12_init_186 : decode cX12_init 186 = .ok (.putfield 73, 3) := by decide +kernel
theorem dX12_init_189 : decode cX12_init 189 = .ok (.return_, 1) := by decide +kernel
theorem dX12_in_0 : decode cX12_in 0 = .ok (.lload_n 0, 1) := by decide +kernel
theorem dX12_in_1 : decode cX12_in 1 = .ok (.lload_n 2, 1) := by decide +kernel
theorem dX12_in_2 : decode cX12_in 2 = .ok (.lcmp, 1) := by decide +kernel
theorem dX12_in_3 : decode cX12_in 3 = .ok (.ifCond .lt 14, 3) := by decide +kernel
theorem dX12_in_6 : decode cX12_in 6 = .ok (.lload_n 0, 1) := by decide +kernel
theorem dX12_in_7 : decode cX12_in 7 = .ok (.lload 4, 2) := by decide +kernel
theorem dX12_in_9 : decode cX12_in 9 = .ok (.lcmp, 1) := by decide +kernel
theorem dX12_in_10 : decode cX12_in 10 = .ok (.ifCond .gt 7, 3) := by decide +kernel
theorem dX12_in_13 : decode cX12_in 13 = .ok (.iconst 1, 1) := by decide +kernel
theorem dX12_in_14 : decode cX12_in 14 = .ok (.goto 4, 3) := by decide +kernel
theorem dX12_in_17 : decode cX12_in 17 = .ok (.iconst 0, 1) := by decide +kernel
theorem dX12_in_18 : decode cX12_in 18 = .ok (.ireturn, 1) := by decide +kernel
theorem dX12_refuse_0 : decode cX12_refuse 0 = .ok (.aload_n 0, 1) := by decide +kernel
theorem dX12_refuse_1 : decode cX12_refuse 1 = .ok (.getfield 43, 3) := by decide +kernel
theorem dX12_refuse_4 : decode cX12_refuse 4 = .ok (.iload_n 1, 1) := by decide +kernel
theorem dX12_refuse_5 : decode cX12_refuse 5 = .ok (.ineg, 1) := by decide +kernel
theorem dX12_refuse_6 : decode cX12_refuse 6 = .ok (.dup2, 1) := by decide +kernel
theorem dX12_refuse_7 : decode cX12_refuse 7 = .ok (.iaload, 1) := by decide +kernel
theorem dX12_refuse_8 : decode cX12_refuse 8 = .ok (.iconst 1, 1) := by decide +kernel
theorem dX12_refuse_9 : decode cX12_refuse 9 = .ok (.iadd, 1) := by decide +kernel
theorem dX12_refuse_10 : decode cX12_refuse 10 = .ok (.iastore, 1) := by decide +kernel
theorem dX12_refuse_11 : decode cX12_refuse 11 = .ok (.iload_n 1, 1) := by decide +kernel
theorem dX12_refuse_12 : decode cX12_refuse 12 = .ok (.ireturn, 1) := by decide +kernel
theorem dX12_isHouse_0 : decode cX12_isHouse 0 = .ok (.iload_n 1, 1) := by decide +kernel
theorem dX12_isHouse_1 : decode cX12_isHouse 1 = .ok (.i2l, 1) := by decide +kernel
theorem dX12_isHouse_2 : decode cX12_isHouse 2 = .ok (.lconst 0, 1) := by decide +kernel
theorem dX12_isHouse_3 : decode cX12_isHouse 3 = .ok (.aload_n 0, 1) := by decide +kernel
theorem dX12_isHouse_4 : decode cX12_isHouse 4 = .ok (.getfield 77, 3) := by decide +kernel
theorem dX12_isHouse_7 : decode cX12_isHouse 7 = .ok (.iconst 1, 1) := by decide +kernel
theorem dX12_isHouse_8 : decode cX12_isHouse 8 = .ok (.isub, 1) := by decide +kernel
theorem dX12_isHouse_9 : decode cX12_isHouse 9 = .ok (.i2l, 1) := by decide +kernel
theorem dX12_isHouse_10 : decode cX12_isHouse 10 = .ok (.invokestatic 80, 3) := by decide +kernel
theorem dX12_isHouse_13 : decode cX12_isHouse 13 = .ok (.ireturn, 1) := by decide +kernel
theorem dX12_areTwo_0 : decode cX12_areTwo 0 = .ok (.aload_n 0, 1) := by decide +kernel
theorem dX12_areTwo_1 : decode cX12_areTwo 1 = .ok (.iload_n 1, 1) := by decide +kernel
theorem dX12_areTwo_2 : decode cX12_areTwo 2 = .ok (.invokevirtual 84, 3) := by decide +kernel
theorem dX12_areTwo_5 : decode cX12_areTwo 5 = .ok (.ifCond .eq 20, 3) := by decide +kernel
theorem dX12_areTwo_8 : decode cX12_areTwo 8 = .ok (.aload_n 0, 1) := by decide +kernel
theorem dX12_areTwo_9 : decode cX12_areTwo 9 = .ok (.iload_n 2, 1) := by decide +kernel
theorem dX12_areTwo_10 : decode cX12_areTwo 10 = .ok (.invokevirtual 84, 3) := by decide +kernel
theorem dX12_areTwo_13 : decode cX12_areTwo 13 = .ok (.ifCond .eq 12, 3) := by decide +kernel
theorem dX12_areTwo_16 : decode cX12_areTwo 16 = .ok (.iload_n 1, 1) := by decide +kernel
theorem dX12_areTwo_17 : decode cX12_areTwo 17 = .ok (.iload_n 2, 1) := by decide +kernel
theorem dX12_areTwo_18 : decode cX12_areTwo 18 = .ok (.if_icmp .eq 7, 3) := by decide +kernel
theorem dX12_areTwo_21 : decode cX12_areTwo 21 = .ok (.iconst 1, 1) := by decide +kernel
theorem dX12_areTwo_22 : decode cX12_areTwo 22 = .ok (.goto 4, 3) := by decide +kernel
theorem dX12_areTwo_25 : decode cX12_areTwo 25 = .ok (.iconst 0, 1) := by decide +kernel
theorem dX12_areTwo_26 : decode cX12_areTwo 26 = .ok (.ireturn, 1) := by decide +kernel
theorem dX12_isGood_0 : decode cX12_isGood 0 = .ok (.iload_n 0, 1) := by decide +kernel
theorem dX12_isGood_1 : decode cX12_isGood 1 = .ok (.i2l, 1) := by decide +kernel
theorem dX12_isGood_2 : decode cX12_isGood 2 = .ok (.lconst 0, 1) := by decide +kernel
theorem dX12_isGood_3 : decode cX12_isGood 3 = .ok (.ldc2_w 88, 3) := by decide +kernel
theorem dX12_isGood_6 : decode cX12_isGood 6 = .ok (.invokestatic 80, 3) := by decide +kernel
theorem dX12_isGood_9 : decode cX12_isGood 9 = .ok (.ireturn, 1) := by decide +kernel
theorem dX12_sellsAt_0 : decode cX12_sellsAt 0 = .ok (.aload_n 0, 1) := by decide +kernel
theorem dX12_sellsAt_1 : decode cX12_sellsAt 1 = .ok (.getfield 7, 3) := by decide +kernel
theorem dX12_sellsAt_4 : decode cX12_sellsAt 4 = .ok (.iload_n 1, 1) := by decide +kernel
theorem dX12_sellsAt_5 : decode cX12_sellsAt 5 = .ok (.iaload, 1) := by decide +kernel
theorem dX12_sellsAt_6 : decode cX12_sellsAt 6 = .ok (.iconst 2, 1) := by decide +kernel
theorem dX12_sellsAt_7 : decode cX12_sellsAt 7 = .ok (.if_icmp .eq 13, 3) := by decide +kernel
theorem dX12_sellsAt_10 : decode cX12_sellsAt 10 = .ok (.aload_n 0, 1) := by decide +kernel
theorem dX12_sellsAt_11 : decode cX12_sellsAt 11 = .ok (.getfield 7, 3) := by decide +kernel
theorem dX12_sellsAt_14 : decode cX12_sellsAt 14 = .ok (.iload_n 1, 1) := by decide +kernel
theorem dX12_sellsAt_15 : decode cX12_sellsAt 15 = .ok (.iaload, 1) := by decide +kernel
theorem dX12_sellsAt_16 : decode cX12_sellsAt 16 = .ok (.iconst 3, 1) := by decide +kernel
theorem dX12_sellsAt_17 : decode cX12_sellsAt 17 = .ok (.if_icmp .le 7, 3) := by decide +kernel
theorem dX12_sellsAt_20 : decode cX12_sellsAt 20 = .ok (.iconst 1, 1) := by decide +kernel
theorem dX12_sellsAt_21 : decode cX12_sellsAt 21 = .ok (.goto 4, 3) := by decide +kernel
theorem dX12_sellsAt_24 : decode cX12_sellsAt 24 = .ok (.iconst 0, 1) := by decide +kernel
theorem dX12_sellsAt_25 : decode cX12_sellsAt 25 = .ok (.istore_n 2, 1) := by decide +kernel
theorem dX12_sellsAt_26 : decode cX12_sellsAt 26 = .ok (.iload_n 2, 1) := by decide +kernel
theorem dX12_sellsAt_27 : decode cX12_sellsAt 27 = .ok (.ifCond .eq 19, 3) := by decide +kernel
theorem dX12_sellsAt_30 : decode cX12_sellsAt 30 = .ok (.aload_n 0, 1) := by decide +kernel
theorem dX12_sellsAt_31 : decode cX12_sellsAt 31 = .ok (.getfield 16, 3) := by decide +kernel
theorem dX12_sellsAt_34 : decode cX12_sellsAt 34 = .ok (.iload_n 1, 1) := by decide +kernel
theorem dX12_sellsAt_35 : decode cX12_sellsAt 35 = .ok (.iaload, 1) := by decide +kernel
theorem dX12_sellsAt_36 : decode cX12_sellsAt 36 = .ok (.aload_n 0, 1) := by decide +kernel
theorem dX12_sellsAt_37 : decode cX12_sellsAt 37 = .ok (.getfield 13, 3) := by decide +kernel
theorem dX12_sellsAt_40 : decode cX12_sellsAt 40 = .ok (.iload_n 1, 1) := by decide +kernel
theorem dX12_sellsAt_41 : decode cX12_sellsAt 41 = .ok (.iaload, 1) := by decide +kernel
theorem dX12_sellsAt_42 : decode cX12_sellsAt 42 = .ok (.iadd, 1) := by decide +kernel
theorem dX12_sellsAt_43 : decode cX12_sellsAt 43 = .ok (.goto 9, 3) := by decide +kernel
theorem dX12_sellsAt_46 : decode cX12_sellsAt 46 = .ok (.aload_n 0, 1) := by decide +kernel
theorem dX12_sellsAt_47 : decode cX12_sellsAt 47 = .ok (.getfield 16, 3) := by decide +kernel
theorem dX12_sellsAt_50 : decode cX12_sellsAt 50 = .ok (.iload_n 1, 1) := by decide +kernel
theorem dX12_sellsAt_51 : decode cX12_sellsAt 51 = .ok (.iaload, 1) := by decide +kernel
theorem dX12_sellsAt_52 : decode cX12_sellsAt 52 = .ok (.ireturn, 1) := by decide +kernel
theorem dX12_buysAt_0 : decode cX12_buysAt 0 = .ok (.aload_n 0, 1) := by decide +kernel
theorem dX12_buysAt_1 : decode cX12_buysAt 1 = .ok (.getfield 7, 3) := by decide +kernel
theorem dX12_buysAt_4 : decode cX12_buysAt 4 = .ok (.iload_n 1, 1) := by decide +kernel
theorem dX12_buysAt_5 : decode cX12_buysAt 5 = .ok (.iaload, 1) := by decide +kernel
theorem dX12_buysAt_6 : decode cX12_buysAt 6 = .ok (.istore_n 2, 1) := by decide +kernel
theorem dX12_buysAt_7 : decode cX12_buysAt 7 = .ok (.iload_n 2, 1) := by decide +kernel
theorem dX12_buysAt_8 : decode cX12_buysAt 8 = .ok (.iconst 1, 1) := by decide +kernel
theorem dX12_buysAt_9 : decode cX12_buysAt 9 = .ok (.if_icmp .eq 8, 3) := by decide +kernel
theorem dX12_buysAt_12 : decode cX12_buysAt 12 = .ok (.iload_n 2, 1) := by decide +kernel
theorem dX12_buysAt_13 : decode cX12_buysAt 13 = .ok (.iconst 4, 1) := by decide +kernel
theorem dX12_buysAt_14 : decode cX12_buysAt 14 = .ok (.if_icmp .ne 12, 3) := by decide +kernel
theorem dX12_buysAt_17 : decode cX12_buysAt 17 = .ok (.aload_n 0, 1) := by decide +kernel
theorem dX12_buysAt_18 : decode cX12_buysAt 18 = .ok (.getfield 13, 3) := by decide +kernel
theorem dX12_buysAt_21 : decode cX12_buysAt 21 = .ok (.iload_n 1, 1) := by decide +kernel
theorem dX12_buysAt_22 : decode cX12_buysAt 22 = .ok (.iaload, 1) := by decide +kernel
theorem dX12_buysAt_23 : decode cX12_buysAt 23 = .ok (.goto 20, 3) := by decide +kernel
theorem dX12_buysAt_26 : decode cX12_buysAt 26 = .ok (.iload_n 2, 1) := by decide +kernel
theorem dX12_buysAt_27 : decode cX12_buysAt 27 = .ok (.iconst 5, 1) := by decide +kernel
theorem dX12_buysAt_28 : decode cX12_buysAt 28 = .ok (.if_icmp .ne 14, 3) := by decide +kernel
theorem dX12_buysAt_31 : decode cX12_buysAt 31 = .ok (.iconst 2, 1) := by decide +kernel
theorem dX12_buysAt_32 : decode cX12_buysAt 32 = .ok (.aload_n 0, 1) := by decide +kernel
theorem dX12_buysAt_33 : decode cX12_buysAt 33 = .ok (.getfield 13, 3) := by decide +kernel
theorem dX12_buysAt_36 : decode cX12_buysAt 36 = .ok (.iload_n 1, 1) := by decide +kernel
theorem dX12_buysAt_37 : decode cX12_buysAt 37 = .ok (.iaload, 1) := by decide +kernel
theorem dX12_buysAt_38 : decode cX12_buysAt 38 = .ok (.imul, 1) := by decide +kernel
theorem dX12_buysAt_39 : decode cX12_buysAt 39 = .ok (.goto 4, 3) := by decide +kernel
theorem dX12_buysAt_42 : decode cX12_buysAt 42 = .ok (.iconst 0, 1) := by decide +kernel
theorem dX12_buysAt_43 : decode cX12_buysAt 43 = .ok (.istore_n 3, 1) := by decide +kernel
theorem dX12_buysAt_44 : decode cX12_buysAt 44 = .ok (.iload_n 2, 1) := by decide +kernel
theorem dX12_buysAt_45 : decode cX12_buysAt 45 = .ok (.iconst 3, 1) := by decide +kernel
theorem dX12_buysAt_46 : decode cX12_buysAt 46 = .ok (.if_icmp .ne 9, 3) := by decide +kernel
theorem dX12_buysAt_49 : decode cX12_buysAt 49 = .ok (.sipush 999, 3) := by decide +kernel
theorem dX12_buysAt_52 : decode cX12_buysAt 52 = .ok (.goto 11, 3) := by decide +kernel
theorem dX12_buysAt_55 : decode cX12_buysAt 55 = .ok (.aload_n 0, 1) := by decide +kernel
theorem dX12_buysAt_56 : decode cX12_buysAt 56 = .ok (.getfield 16, 3) := by decide +kernel
theorem dX12_buysAt_59 : decode cX12_buysAt 59 = .ok (.iload_n 1, 1) := by decide +kernel
theorem dX12_buysAt_60 : decode cX12_buysAt 60 = .ok (.iaload, 1) := by decide +kernel
theorem dX12_buysAt_61 : decode cX12_buysAt 61 = .ok (.iload_n 3, 1) := by decide +kernel
theorem dX12_buysAt_62 : decode cX12_buysAt 62 = .ok (.isub, 1) := by decide +kernel
theorem dX12_buysAt_63 : decode cX12_buysAt 63 = .ok (.ireturn, 1) := by decide +kernel
theorem dX12_isLawful_0 : decode cX12_isLawful 0 = .ok (.aload_n 0, 1) := by decide +kernel
theorem dX12_isLawful_1 : decode cX12_isLawful 1 = .ok (.iload_n 1, 1) := by decide +kernel
theorem dX12_isLawful_2 : decode cX12_isLawful 2 = .ok (.invokevirtual 90, 3) := by decide +kernel
theorem dX12_isLawful_5 : decode cX12_isLawful 5 = .ok (.istore_n 3, 1) := by decide +kernel
theorem dX12_isLawful_6 : decode cX12_isLawful 6 = .ok (.aload_n 0, 1) := by decide +kernel
theorem dX12_isLawful_7 : decode cX12_isLawful 7 = .ok (.iload_n 2, 1) := by decide +kernel
theorem dX12_isLawful_8 : decode cX12_isLawful 8 = .ok (.invokevirtual 94, 3) := by decide +kernel
theorem dX12_isLawful_11 : decode cX12_isLawful 11 = .ok (.istore 4, 2) := by decide +kernel
theorem dX12_isLawful_13 : decode cX12_isLawful 13 = .ok (.iload_n 1, 1) := by decide +kernel
theorem dX12_isLawful_14 : decode cX12_isLawful 14 = .ok (.iload_n 2, 1) := by decide +kernel
theorem dX12_isLawful_15 : decode cX12_isLawful 15 = .ok (.if_icmp .eq 37, 3) := by decide +kernel
theorem dX12_isLawful_18 : decode cX12_isLawful 18 = .ok (.aload_n 0, 1) := by decide +kernel
theorem dX12_isLawful_19 : decode cX12_isLawful 19 = .ok (.getfield 97, 3) := by decide +kernel
theorem dX12_isLawful_22 : decode cX12_isLawful 22 = .ok (.ifCond .ne 12, 3) := by decide +kernel
theorem dX12_isLawful_25 : decode cX12_isLawful 25 = .ok (.iload 4, 2) := by decide +kernel
theorem dX12_isLawful_27 : decode cX12_isLawful 27 = .ok (.iload_n 3, 1) := by decide +kernel
theorem dX12_isLawful_28 : decode cX12_isLawful 28 = .ok (.if_icmp .ge 24, 3) := by decide +kernel
theorem dX12_isLawful_31 : decode cX12_isLawful 31 = .ok (.goto 17, 3) := by decide +kernel
theorem dX12_isLawful_34 : decode cX12_isLawful 34 = .ok (.aload_n 0, 1) := by decide +kernel
theorem dX12_isLawful_35 : decode cX12_isLawful 35 = .ok (.getfield 97, 3) := by decide +kernel
theorem dX12_isLawful_38 : decode cX12_isLawful 38 = .ok (.iconst 2, 1) := by decide +kernel
theorem dX12_isLawful_39 : decode cX12_isLawful 39 = .ok (.if_icmp .eq 9, 3) := by decide +kernel
theorem dX12_isLawful_42 : decode cX12_isLawful 42 = .ok (.iload 4, 2) := by decide +kernel
theorem dX12_isLawful_44 : decode cX12_isLawful 44 = .ok (.iload_n 3, 1) := by decide +kernel
theorem dX12_isLawful_45 : decode cX12_isLawful 45 = .ok (.if_icmp .le 7, 3) := by decide +kernel
theorem dX12_isLawful_48 : decode cX12_isLawful 48 = .ok (.iconst 1, 1) := by decide +kernel
theorem dX12_isLawful_49 : decode cX12_isLawful 49 = .ok (.goto 4, 3) := by decide +kernel
theorem dX12_isLawful_52 : decode cX12_isLawful 52 = .ok (.iconst 0, 1) := by decide +kernel
theorem dX12_isLawful_53 : decode cX12_isLawful 53 = .ok (.ireturn, 1) := by decide +kernel
theorem dX12_canSell_0 : decode cX12_canSell 0 = .ok (.aload_n 0, 1) := by decide +kernel
theorem dX12_canSell_1 : decode cX12_canSell 1 = .ok (.iload_n 1, 1) := by decide +kernel
theorem dX12_canSell_2 : decode cX12_canSell 2 = .ok (.iload_n 2, 1) := by decide +kernel
theorem dX12_canSell_3 : decode cX12_canSell 3 = .ok (.invokevirtual 100, 3) := by decide +kernel
theorem dX12_canSell_6 : decode cX12_canSell 6 = .ok (.ifCond .eq 69, 3) := by decide +kernel
theorem dX12_canSell_9 : decode cX12_canSell 9 = .ok (.aload_n 0, 1) := by decide +kernel
theorem dX12_canSell_10 : decode cX12_canSell 10 = .ok (.getfield 34, 3) := by decide +kernel
theorem dX12_canSell_13 : decode cX12_canSell 13 = .ok (.iconst 3, 1) := by decide +kernel
theorem dX12_canSell_14 : decode cX12_canSell 14 = .ok (.iload_n 1, 1) := by decide +kernel
theorem dX12_canSell_15 : decode cX12_canSell 15 = .ok (.imul, 1) := by decide +kernel
theorem dX12_canSell_16 : decode cX12_canSell 16 = .ok (.iload_n 3, 1) := by decide +kernel
theorem dX12_canSell_17 : decode cX12_canSell 17 = .ok (.iadd, 1) := by decide +kernel
theorem dX12_canSell_18 : decode cX12_canSell 18 = .ok (.iaload, 1) := by decide +kernel
theorem dX12_canSell_19 : decode cX12_canSell 19 = .ok (.ifCond .le 56, 3) := by decide +kernel
theorem dX12_canSell_22 : decode cX12_canSell 22 = .ok (.aload_n 0, 1) := by decide +kernel
theorem dX12_canSell_23 : decode cX12_canSell 23 = .ok (.getfield 31, 3) := by decide +kernel
theorem dX12_canSell_26 : decode cX12_canSell 26 = .ok (.iload_n 2, 1) := by decide +kernel
theorem dX12_canSell_27 : decode cX12_canSell 27 = .ok (.iaload, 1) := by decide +kernel
theorem dX12_canSell_28 : decode cX12_canSell 28 = .ok (.aload_n 0, 1) := by decide +kernel
theorem dX12_canSell_29 : decode cX12_canSell 29 = .ok (.getfield 40, 3) := by decide +kernel
theorem dX12_canSell_32 : decode cX12_canSell 32 = .ok (.iload_n 3, 1) := by decide +kernel
theorem dX12_canSell_33 : decode cX12_canSell 33 = .ok (.iaload, 1) := by decide +kernel
theorem dX12_canSell_34 : decode cX12_canSell 34 = .ok (.if_icmp .lt 41, 3) := by decide +kernel
theorem dX12_canSell_37 : decode cX12_canSell 37 = .ok (.aload_n 0, 1) := by decide +kernel
theorem dX12_canSell_38 : decode cX12_canSell 38 = .ok (.getfield 34, 3) := by decide +kernel
theorem dX12_canSell_41 : decode cX12_canSell 41 = .ok (.iconst 3, 1) := by decide +kernel
theorem dX12_canSell_42 : decode cX12_canSell 42 = .ok (.iload_n 2, 1) := by decide +kernel
theorem dX12_canSell_43 : decode cX12_canSell 43 = .ok (.imul, 1) := by decide +kernel
theorem dX12_canSell_44 : decode cX12_canSell 44 = .ok (.iload_n 3, 1) := by decide +kernel
theorem dX12_canSell_45 : decode cX12_canSell 45 = .ok (.iadd, 1) := by decide +kernel
theorem dX12_canSell_46 : decode cX12_canSell 46 = .ok (.iaload, 1) := by decide +kernel
theorem dX12_canSell_47 : decode cX12_canSell 47 = .ok (.bipush 99, 2) := by decide +kernel
theorem dX12_canSell_49 : decode cX12_canSell 49 = .ok (.if_icmp .ge 26, 3) := by decide +kernel
theorem dX12_canSell_52 : decode cX12_canSell 52 = .ok (.aload_n 0, 1) := by decide +kernel
theorem dX12_canSell_53 : decode cX12_canSell 53 = .ok (.getfield 31, 3) := by decide +kernel
theorem dX12_canSell_56 : decode cX12_canSell 56 = .ok (.iload_n 1, 1) := by decide +kernel
theorem dX12_canSell_57 : decode cX12_canSell 57 = .ok (.iaload, 1) := by decide +kernel
theorem dX12_canSell_58 : decode cX12_canSell 58 = .ok (.aload_n 0, 1) := by decide +kernel
theorem dX12_canSell_59 : decode cX12_canSell 59 = .ok (.getfield 40, 3) := by decide +kernel
theorem dX12_canSell_62 : decode cX12_canSell 62 = .ok (.iload_n 3, 1) := by decide +kernel
theorem dX12_canSell_63 : decode cX12_canSell 63 = .ok (.iaload, 1) := by decide +kernel
theorem dX12_canSell_64 : decode cX12_canSell 64 = .ok (.iadd, 1) := by decide +kernel
theorem dX12_canSell_65 : decode cX12_canSell 65 = .ok (.sipush 9999, 3) := by decide +kernel
theorem dX12_canSell_68 : decode cX12_canSell 68 = .ok (.if_icmp .gt 7, 3) := by decide +kernel
theorem dX12_canSell_71 : decode cX12_canSell 71 = .ok (.iconst 1, 1) := by decide +kernel
theorem dX12_canSell_72 : decode cX12_canSell 72 = .ok (.goto 4, 3) := by decide +kernel
theorem dX12_canSell_75 : decode cX12_canSell 75 = .ok (.iconst 0, 1) := by decide +kernel
theorem dX12_canSell_76 : decode cX12_canSell 76 = .ok (.ireturn, 1) := by decide +kernel
theorem dX12_sell_0 : decode cX12_sell 0 = .ok (.aload_n 0, 1) := by decide +kernel
theorem dX12_sell_1 : decode cX12_sell 1 = .ok (.getfield 34, 3) := by decide +kernel
theorem dX12_sell_4 : decode cX12_sell 4 = .ok (.iconst 3, 1) := by decide +kernel
theorem dX12_sell_5 : decode cX12_sell 5 = .ok (.iload_n 1, 1) := by decide +kernel
theorem dX12_sell_6 : decode cX12_sell 6 = .ok (.imul, 1) := by decide +kernel
theorem dX12_sell_7 : decode cX12_sell 7 = .ok (.iload_n 3, 1) := by decide +kernel
theorem dX12_sell_8 : decode cX12_sell 8 = .ok (.iadd, 1) := by decide +kernel
theorem dX12_sell_9 : decode cX12_sell 9 = .ok (.dup2, 1) := by decide +kernel
theorem dX12_sell_10 : decode cX12_sell 10 = .ok (.iaload, 1) := by decide +kernel
theorem dX12_sell_11 : decode cX12_sell 11 = .ok (.iconst 1, 1) := by decide +kernel
theorem dX12_sell_12 : decode cX12_sell 12 = .ok (.isub, 1) := by decide +kernel
theorem dX12_sell_13 : decode cX12_sell 13 = .ok (.iastore, 1) := by decide +kernel
theorem dX12_sell_14 : decode cX12_sell 14 = .ok (.aload_n 0, 1) := by decide +kernel
theorem dX12_sell_15 : decode cX12_sell 15 = .ok (.getfield 34, 3) := by decide +kernel
theorem dX12_sell_18 : decode cX12_sell 18 = .ok (.iconst 3, 1) := by decide +kernel
theorem dX12_sell_19 : decode cX12_sell 19 = .ok (.iload_n 2, 1) := by decide +kernel
theorem dX12_sell_20 : decode cX12_sell 20 = .ok (.imul, 1) := by decide +kernel
theorem dX12_sell_21 : decode cX12_sell 21 = .ok (.iload_n 3, 1) := by decide +kernel
theorem dX12_sell_22 : decode cX12_sell 22 = .ok (.iadd, 1) := by decide +kernel
theorem dX12_sell_23 : decode cX12_sell 23 = .ok (.dup2, 1) := by decide +kernel
theorem dX12_sell_24 : decode cX12_sell 24 = .ok (.iaload, 1) := by decide +kernel
theorem dX12_sell_25 : decode cX12_sell 25 = .ok (.iconst 1, 1) := by decide +kernel
theorem dX12_sell_26 : decode cX12_sell 26 = .ok (.iadd, 1) := by decide +kernel
theorem dX12_sell_27 : decode cX12_sell 27 = .ok (.iastore, 1) := by decide +kernel
theorem dX12_sell_28 : decode cX12_sell 28 = .ok (.aload_n 0, 1) := by decide +kernel
theorem dX12_sell_29 : decode cX12_sell 29 = .ok (.getfield 31, 3) := by decide +kernel
theorem dX12_sell_32 : decode cX12_sell 32 = .ok (.iload_n 1, 1) := by decide +kernel
theorem dX12_sell_33 : decode cX12_sell 33 = .ok (.dup2, 1) := by decide +kernel
theorem dX12_sell_34 : decode cX12_sell 34 = .ok (.iaload, 1) := by decide +kernel
theorem dX12_sell_35 : decode cX12_sell 35 = .ok (.aload_n 0, 1) := by decide +kernel
theorem dX12_sell_36 : decode cX12_sell 36 = .ok (.getfield 40, 3) := by decide +kernel
theorem dX12_sell_39 : decode cX12_sell 39 = .ok (.iload_n 3, 1) := by decide +kernel
theorem dX12_sell_40 : decode cX12_sell 40 = .ok (.iaload, 1) := by decide +kernel
theorem dX12_sell_41 : decode cX12_sell 41 = .ok (.iadd, 1) := by decide +kernel
theorem dX12_sell_42 : decode cX12_sell 42 = .ok (.iastore, 1) := by decide +kernel
theorem dX12_sell_43 : decode cX12_sell 43 = .ok (.aload_n 0, 1) := by decide +kernel
theorem dX12_sell_44 : decode cX12_sell 44 = .ok (.getfield 31, 3) := by decide +kernel
theorem dX12_sell_47 : decode cX12_sell 47 = .ok (.iload_n 2, 1) := by decide +kernel
theorem dX12_sell_48 : decode cX12_sell 48 = .ok (.dup2, 1) := by decide +kernel
theorem dX12_sell_49 : decode cX12_sell 49 = .ok (.iaload, 1) := by decide +kernel
theorem dX12_sell_50 : decode cX12_sell 50 = .ok (.aload_n 0, 1) := by decide +kernel
theorem dX12_sell_51 : decode cX12_sell 51 = .ok (.getfield 40, 3) := by decide +kernel
theorem dX12_sell_54 : decode cX12_sell 54 = .ok (.iload_n 3, 1) := by decide +kernel
theorem dX12_sell_55 : decode cX12_sell 55 = .ok (.iaload, 1) := by decide +kernel
theorem dX12_sell_56 : decode cX12_sell 56 = .ok (.isub, 1) := by decide +kernel
theorem dX12_sell_57 : decode cX12_sell 57 = .ok (.iastore, 1) := by decide +kernel
theorem dX12_sell_58 : decode cX12_sell 58 = .ok (.return_, 1) := by decide +kernel
theorem dX12_wants_0 : decode cX12_wants 0 = .ok (.aload_n 0, 1) := by decide +kernel
theorem dX12_wants_1 : decode cX12_wants 1 = .ok (.getfield 25, 3) := by decide +kernel
theorem dX12_wants_4 : decode cX12_wants 4 = .ok (.iload_n 1, 1) := by decide +kernel
theorem dX12_wants_5 : decode cX12_wants 5 = .ok (.iaload, 1) := by decide +kernel
theorem dX12_wants_6 : decode cX12_wants 6 = .ok (.iload_n 2, 1) := by decide +kernel
theorem dX12_wants_7 : decode cX12_wants 7 = .ok (.if_icmp .ne 16, 3) := by decide +kernel
theorem dX12_wants_10 : decode cX12_wants 10 = .ok (.aload_n 0, 1) := by decide +kernel
theorem dX12_wants_11 : decode cX12_wants 11 = .ok (.getfield 28, 3) := by decide +kernel
theorem dX12_wants_14 : decode cX12_wants 14 = .ok (.iload_n 1, 1) := by decide +kernel
theorem dX12_wants_15 : decode cX12_wants 15 = .ok (.iaload, 1) := by decide +kernel
theorem dX12_wants_16 : decode cX12_wants 16 = .ok (.ifCond .le 7, 3) := by decide +kernel
theorem dX12_wants_19 : decode cX12_wants 19 = .ok (.iconst 1, 1) := by decide +kernel
theorem dX12_wants_20 : decode cX12_wants 20 = .ok (.goto 4, 3) := by decide +kernel
theorem dX12_wants_23 : decode cX12_wants 23 = .ok (.iconst 0, 1) := by decide +kernel
theorem dX12_wants_24 : decode cX12_wants 24 = .ok (.ireturn, 1) := by decide +kernel
theorem dX12_buyFor_0 : decode cX12_buyFor 0 = .ok (.aload_n 0, 1) := by decide +kernel
theorem dX12_buyFor_1 : decode cX12_buyFor 1 = .ok (.getfield 25, 3) := by decide +kernel
theorem dX12_buyFor_4 : decode cX12_buyFor 4 = .ok (.iload_n 1, 1) := by decide +kernel
theorem dX12_buyFor_5 : decode cX12_buyFor 5 = .ok (.iaload, 1) := by decide +kernel
theorem dX12_buyFor_6 : decode cX12_buyFor 6 = .ok (.istore_n 2, 1) := by decide +kernel
theorem dX12_buyFor_7 : decode cX12_buyFor 7 = .ok (.iconst 1, 1) := by decide +kernel
theorem dX12_buyFor_8 : decode cX12_buyFor 8 = .ok (.istore_n 3, 1) := by decide +kernel
theorem dX12_buyFor_9 : decode cX12_buyFor 9 = .ok (.iload_n 3, 1) := by decide +kernel
theorem dX12_buyFor_10 : decode cX12_buyFor 10 = .ok (.ifCond .eq 151, 3) := by decide +kernel
theorem dX12_buyFor_13 : decode cX12_buyFor 13 = .ok (.aload_n 0, 1) := by decide +kernel
theorem dX12_buyFor_14 : decode cX12_buyFor 14 = .ok (.getfield 34, 3) := by decide +kernel
theorem dX12_buyFor_17 : decode cX12_buyFor 17 = .ok (.iconst 3, 1) := by decide +kernel
theorem dX12_buyFor_18 : decode cX12_buyFor 18 = .ok (.iload_n 1, 1) := by decide +kernel
theorem dX12_buyFor_19 : decode cX12_buyFor 19 = .ok (.imul, 1) := by decide +kernel
theorem dX12_buyFor_20 : decode cX12_buyFor 20 = .ok (.iload_n 2, 1) := by decide +kernel
theorem dX12_buyFor_21 : decode cX12_buyFor 21 = .ok (.iadd, 1) := by decide +kernel
theorem dX12_buyFor_22 : decode cX12_buyFor 22 = .ok (.iaload, 1) := by decide +kernel
theorem dX12_buyFor_23 : decode cX12_buyFor 23 = .ok (.aload_n 0, 1) := by decide +kernel
theorem dX12_buyFor_24 : decode cX12_buyFor 24 = .ok (.getfield 28, 3) := by decide +kernel
theorem dX12_buyFor_27 : decode cX12_buyFor 27 = .ok (.iload_n 1, 1) := by decide +kernel
theorem dX12_buyFor_28 : decode cX12_buyFor 28 = .ok (.iaload, 1) := by decide +kernel
theorem dX12_buyFor_29 : decode cX12_buyFor 29 = .ok (.if_icmp .ge 132, 3) := by decide +kernel
theorem dX12_buyFor_32 : decode cX12_buyFor 32 = .ok (.iconst (-1), 1) := by decide +kernel
theorem dX12_buyFor_33 : decode cX12_buyFor 33 = .ok (.istore 4, 2) := by decide +kernel
theorem dX12_buyFor_35 : decode cX12_buyFor 35 = .ok (.iconst 0, 1) := by decide +kernel
theorem dX12_buyFor_36 : decode cX12_buyFor 36 = .ok (.istore 5, 2) := by decide +kernel
theorem dX12_buyFor_38 : decode cX12_buyFor 38 = .ok (.iload 5, 2) := by decide +kernel
theorem dX12_buyFor_40 : decode cX12_buyFor 40 = .ok (.aload_n 0, 1) := by decide +kernel
theorem dX12_buyFor_41 : decode cX12_buyFor 41 = .ok (.getfield 77, 3) := by decide +kernel
theorem dX12_buyFor_44 : decode cX12_buyFor 44 = .ok (.if_icmp .ge 81, 3) := by decide +kernel
theorem dX12_buyFor_47 : decode cX12_buyFor 47 = .ok (.aload_n 0, 1) := by decide +kernel
theorem dX12_buyFor_48 : decode cX12_buyFor 48 = .ok (.iload 5, 2) := by decide +kernel
theorem dX12_buyFor_50 : decode cX12_buyFor 50 = .ok (.iload_n 2, 1) := by decide +kernel
theorem dX12_buyFor_51 : decode cX12_buyFor 51 = .ok (.invokevirtual 104, 3) := by decide +kernel
theorem dX12_buyFor_54 : decode cX12_buyFor 54 = .ok (.ifCond .ne 18, 3) := by decide +kernel
theorem dX12_buyFor_57 : decode cX12_buyFor 57 = .ok (.aload_n 0, 1) := by decide +kernel
theorem dX12_buyFor_58 : decode cX12_buyFor 58 = .ok (.iload 5, 2) := by decide +kernel
theorem dX12_buyFor_60 : decode cX12_buyFor 60 = .ok (.iload_n 1, 1) := by decide +kernel
theorem dX12_buyFor_61 : decode cX12_buyFor 61 = .ok (.iload_n 2, 1) := by decide +kernel
theorem dX12_buyFor_62 : decode cX12_buyFor 62 = .ok (.invokevirtual 107, 3) := by decide +kernel
theorem dX12_buyFor_65 : decode cX12_buyFor 65 = .ok (.ifCond .eq 7, 3) := by decide +kernel
theorem dX12_buyFor_68 : decode cX12_buyFor 68 = .ok (.iconst 1, 1) := by decide +kernel
theorem dX12_buyFor_69 : decode cX12_buyFor 69 = .ok (.goto 4, 3) := by decide +kernel
theorem dX12_buyFor_72 : decode cX12_buyFor 72 = .ok (.iconst 0, 1) := by decide +kernel
theorem dX12_buyFor_73 : decode cX12_buyFor 73 = .ok (.istore 6, 2) := by decide +kernel
theorem dX12_buyFor_75 : decode cX12_buyFor 75 = .ok (.iload 6, 2) := by decide +kernel
theorem dX12_buyFor_77 : decode cX12_buyFor 77 = .ok (.ifCond .eq 38, 3) := by decide +kernel
theorem dX12_buyFor_80 : decode cX12_buyFor 80 = .ok (.iload 4, 2) := by decide +kernel
theorem dX12_buyFor_82 : decode cX12_buyFor 82 = .ok (.ifCond .lt 28, 3) := by decide +kernel
theorem dX12_buyFor_85 : decode cX12_buyFor 85 = .ok (.aload_n 0, 1) := by decide +kernel
theorem dX12_buyFor_86 : decode cX12_buyFor 86 = .ok (.getfield 34, 3) := by decide +kernel
theorem dX12_buyFor_89 : decode cX12_buyFor 89 = .ok (.iconst 3, 1) := by decide +kernel
theorem dX12_buyFor_90 : decode cX12_buyFor 90 = .ok (.iload 5, 2) := by decide +kernel
theorem dX12_buyFor_92 : decode cX12_buyFor 92 = .ok (.imul, 1) := by decide +kernel
theorem dX12_buyFor_93 : decode cX12_buyFor 93 = .ok (.iload_n 2, 1) := by decide +kernel
theorem dX12_buyFor_94 : decode cX12_buyFor 94 = .ok (.iadd, 1) := by decide +kernel
theorem dX12_buyFor_95 : decode cX12_buyFor 95 = .ok (.iaload, 1) := by decide +kernel
theorem dX12_buyFor_96 : decode cX12_buyFor 96 = .ok (.aload_n 0, 1) := by decide +kernel
theorem dX12_buyFor_97 : decode cX12_buyFor 97 = .ok (.getfield 34, 3) := by decide +kernel
theorem dX12_buyFor_100 : decode cX12_buyFor 100 = .ok (.iconst 3, 1) := by decide +kernel
theorem dX12_buyFor_101 : decode cX12_buyFor 101 = .ok (.iload 4, 2) := by decide +kernel
theorem dX12_buyFor_103 : decode cX12_buyFor 103 = .ok (.imul, 1) := by decide +kernel
theorem dX12_buyFor_104 : decode cX12_buyFor 104 = .ok (.iload_n 2, 1) := by decide +kernel
theorem dX12_buyFor_105 : decode cX12_buyFor 105 = .ok (.iadd, 1) := by decide +kernel
theorem dX12_buyFor_106 : decode cX12_buyFor 106 = .ok (.iaload, 1) := by decide +kernel
theorem dX12_buyFor_107 : decode cX12_buyFor 107 = .ok (.if_icmp .le 8, 3) := by decide +kernel
theorem dX12_buyFor_110 : decode cX12_buyFor 110 = .ok (.iload 5, 2) := by decide +kernel
theorem dX12_buyFor_112 : decode cX12_buyFor 112 = .ok (.goto 5, 3) := by decide +kernel
theorem dX12_buyFor_115 : decode cX12_buyFor 115 = .ok (.iload 4, 2) := by decide +kernel
theorem dX12_buyFor_117 : decode cX12_buyFor 117 = .ok (.istore 4, 2) := by decide +kernel
theorem dX12_buyFor_119 : decode cX12_buyFor 119 = .ok (.iinc 5 1, 3) := by decide +kernel
theorem dX12_buyFor_122 : decode cX12_buyFor 122 = .ok (.goto (-84), 3) := by decide +kernel
theorem dX12_buyFor_125 : decode cX12_buyFor 125 = .ok (.iload 4, 2) := by decide +kernel
theorem dX12_buyFor_127 : decode cX12_buyFor 127 = .ok (.ifCond .lt 7, 3) := by decide +kernel
theorem dX12_buyFor_130 : decode cX12_buyFor 130 = .ok (.iconst 1, 1) := by decide +kernel
theorem dX12_buyFor_131 : decode cX12_buyFor 131 = .ok (.goto 4, 3) := by decide +kernel
theorem dX12_buyFor_134 : decode cX12_buyFor 134 = .ok (.iconst 0, 1) := by decide +kernel
theorem dX12_buyFor_135 : decode cX12_buyFor 135 = .ok (.istore_n 3, 1) := by decide +kernel
theorem dX12_buyFor_136 : decode cX12_buyFor 136 = .ok (.iload_n 3, 1) := by decide +kernel
theorem dX12_buyFor_137 : decode cX12_buyFor 137 = .ok (.ifCond .eq 21, 3) := by decide +kernel
theorem dX12_buyFor_140 : decode cX12_buyFor 140 = .ok (.aload_n 0, 1) := by decide +kernel
theorem dX12_buyFor_141 : decode cX12_buyFor 141 = .ok (.iload 4, 2) := by decide +kernel
theorem dX12_buyFor_143 : decode cX12_buyFor 143 = .ok (.iload_n 1, 1) := by decide +kernel
theorem dX12_buyFor_144 : decode cX12_buyFor 144 = .ok (.iload_n 2, 1) := by decide +kernel
theorem dX12_buyFor_145 : decode cX12_buyFor 145 = .ok (.invokevirtual 111, 3) := by decide +kernel
theorem dX12_buyFor_148 : decode cX12_buyFor 148 = .ok (.aload_n 0, 1) := by decide +kernel
theorem dX12_buyFor_149 : decode cX12_buyFor 149 = .ok (.dup, 1) := by decide +kernel
theorem dX12_buyFor_150 : decode cX12_buyFor 150 = .ok (.getfield 115, 3) := by decide +kernel
theorem dX12_buyFor_153 : decode cX12_buyFor 153 = .ok (.iconst 1, 1) := by decide +kernel
theorem dX12_buyFor_154 : decode cX12_buyFor 154 = .ok (.iadd, 1) := by decide +kernel
theorem dX12_buyFor_155 : decode cX12_buyFor 155 = .ok (.putfield 115, 3) := by decide +kernel
theorem dX12_buyFor_158 : decode cX12_buyFor 158 = .ok (.goto (-149), 3) := by decide +kernel
theorem dX12_buyFor_161 : decode cX12_buyFor 161 = .ok (.return_, 1) := by decide +kernel
theorem dX12_weekOn_0 : decode cX12_weekOn 0 = .ok (.aload_n 0, 1) := by decide +kernel
theorem dX12_weekOn_1 : decode cX12_weekOn 1 = .ok (.iconst 0, 1) := by decide +kernel
theorem dX12_weekOn_2 : decode cX12_weekOn 2 = .ok (.putfield 115, 3) := by decide +kernel
theorem dX12_weekOn_5 : decode cX12_weekOn 5 = .ok (.iconst 0, 1) := by decide +kernel
theorem dX12_weekOn_6 : decode cX12_weekOn 6 = .ok (.istore_n 1, 1) := by decide +kernel
theorem dX12_weekOn_7 : decode cX12_weekOn 7 = .ok (.iload_n 1, 1) := by decide +kernel
theorem dX12_weekOn_8 : decode cX12_weekOn 8 = .ok (.aload_n 0, 1) := by decide +kernel
theorem dX12_weekOn_9 : decode cX12_weekOn 9 = .ok (.getfield 77, 3) := by decide +kernel
theorem dX12_weekOn_12 : decode cX12_weekOn 12 = .ok (.if_icmp .ge 62, 3) := by decide +kernel
theorem dX12_weekOn_15 : decode cX12_weekOn 15 = .ok (.iconst 3, 1) := by decide +kernel
theorem dX12_weekOn_16 : decode cX12_weekOn 16 = .ok (.iload_n 1, 1) := by decide +kernel
theorem dX12_weekOn_17 : decode cX12_weekOn 17 = .ok (.imul, 1) := by decide +kernel
theorem dX12_weekOn_18 : decode cX12_weekOn 18 = .ok (.aload_n 0, 1) := by decide +kernel
theorem dX12_weekOn_19 : decode cX12_weekOn 19 = .ok (.getfield 19, 3) := by decide +kernel
theorem dX12_weekOn_22 : decode cX12_weekOn 22 = .ok (.iload_n 1, 1) := by decide +kernel
theorem dX12_weekOn_23 : decode cX12_weekOn 23 = .ok (.iaload, 1) := by decide +kernel
theorem dX12_weekOn_24 : decode cX12_weekOn 24 = .ok (.iadd, 1) := by decide +kernel
theorem dX12_weekOn_25 : decode cX12_weekOn 25 = .ok (.istore_n 2, 1) := by decide +kernel
theorem dX12_weekOn_26 : decode cX12_weekOn 26 = .ok (.aload_n 0, 1) := by decide +kernel
theorem dX12_weekOn_27 : decode cX12_weekOn 27 = .ok (.getfield 34, 3) := by decide +kernel
theorem dX12_weekOn_30 : decode cX12_weekOn 30 = .ok (.iload_n 2, 1) := by decide +kernel
theorem dX12_weekOn_31 : decode cX12_weekOn 31 = .ok (.aload_n 0, 1) := by decide +kernel
theorem dX12_weekOn_32 : decode cX12_weekOn 32 = .ok (.getfield 34, 3) := by decide +kernel
theorem dX12_weekOn_35 : decode cX12_weekOn 35 = .ok (.iload_n 2, 1) := by decide +kernel
theorem dX12_weekOn_36 : decode cX12_weekOn 36 = .ok (.iaload, 1) := by decide +kernel
theorem dX12_weekOn_37 : decode cX12_weekOn 37 = .ok (.aload_n 0, 1) := by decide +kernel
theorem dX12_weekOn_38 : decode cX12_weekOn 38 = .ok (.getfield 22, 3) := by decide +kernel
theorem dX12_weekOn_41 : decode cX12_weekOn 41 = .ok (.iload_n 1, 1) := by decide +kernel
theorem dX12_weekOn_42 : decode cX12_weekOn 42 = .ok (.iaload, 1) := by decide +kernel
theorem dX12_weekOn_43 : decode cX12_weekOn 43 = .ok (.iadd, 1) := by decide +kernel
theorem dX12_weekOn_44 : decode cX12_weekOn 44 = .ok (.bipush 99, 2) := by decide +kernel
theorem dX12_weekOn_46 : decode cX12_weekOn 46 = .ok (.if_icmp .le 8, 3) := by decide +kernel
theorem dX12_weekOn_49 : decode cX12_weekOn 49 = .ok (.bipush 99, 2) := by decide +kernel
theorem dX12_weekOn_51 : decode cX12_weekOn 51 = .ok (.goto 16, 3) := by decide +kernel
theorem dX12_weekOn_54 : decode cX12_weekOn 54 = .ok (.aload_n 0, 1) := by decide +kernel
theorem dX12_weekOn_55 : decode cX12_weekOn 55 = .ok (.getfield 34, 3) := by decide +kernel
theorem dX12_weekOn_58 : decode cX12_weekOn 58 = .ok (.iload_n 2, 1) := by decide +kernel
theorem dX12_weekOn_59 : decode cX12_weekOn 59 = .ok (.iaload, 1) := by decide +kernel
theorem dX12_weekOn_60 : decode cX12_weekOn 60 = .ok (.aload_n 0, 1) := by decide +kernel
theorem dX12_weekOn_61 : decode cX12_weekOn 61 = .ok (.getfield 22, 3) := by decide +kernel
theorem dX12_weekOn_64 : decode cX12_weekOn 64 = .ok (.iload_n 1, 1) := by decide +kernel
theorem dX12_weekOn_65 : decode cX12_weekOn 65 = .ok (.iaload, 1) := by decide +kernel
theorem dX12_weekOn_66 : decode cX12_weekOn 66 = .ok (.iadd, 1) := by decide +kernel
theorem dX12_weekOn_67 : decode cX12_weekOn 67 = .ok (.iastore, 1) := by decide +kernel
theorem dX12_weekOn_68 : decode cX12_weekOn 68 = .ok (.iinc 1 1, 3) := by decide +kernel
theorem dX12_weekOn_71 : decode cX12_weekOn 71 = .ok (.goto (-64), 3) := by decide +kernel
theorem dX12_weekOn_74 : decode cX12_weekOn 74 = .ok (.iconst 0, 1) := by decide +kernel
theorem dX12_weekOn_75 : decode cX12_weekOn 75 = .ok (.istore_n 1, 1) := by decide +kernel
theorem dX12_weekOn_76 : decode cX12_weekOn 76 = .ok (.iload_n 1, 1) := by decide +kernel
theorem dX12_weekOn_77 : decode cX12_weekOn 77 = .ok (.aload_n 0, 1) := by decide +kernel
theorem dX12_weekOn_78 : decode cX12_weekOn 78 = .ok (.getfield 77, 3) := by decide +kernel
theorem dX12_weekOn_81 : decode cX12_weekOn 81 = .ok (.if_icmp .ge 14, 3) := by decide +kernel
theorem dX12_weekOn_84 : decode cX12_weekOn 84 = .ok (.aload_n 0, 1) := by decide +kernel
theorem dX12_weekOn_85 : decode cX12_weekOn 85 = .ok (.iload_n 1, 1) := by decide +kernel
theorem dX12_weekOn_86 : decode cX12_weekOn 86 = .ok (.invokevirtual 118, 3) := by decide +kernel
theorem dX12_weekOn_89 : decode cX12_weekOn 89 = .ok (.iinc 1 1, 3) := by decide +kernel
theorem dX12_weekOn_92 : decode cX12_weekOn 92 = .ok (.goto (-16), 3) := by decide +kernel
theorem dX12_weekOn_95 : decode cX12_weekOn 95 = .ok (.iconst 0, 1) := by decide +kernel
theorem dX12_weekOn_96 : decode cX12_weekOn 96 = .ok (.istore_n 1, 1) := by decide +kernel
theorem dX12_weekOn_97 : decode cX12_weekOn 97 = .ok (.iconst 0, 1) := by decide +kernel
theorem dX12_weekOn_98 : decode cX12_weekOn 98 = .ok (.istore_n 2, 1) := by decide +kernel
theorem dX12_weekOn_99 : decode cX12_weekOn 99 = .ok (.iload_n 2, 1) := by decide +kernel
theorem dX12_weekOn_100 : decode cX12_weekOn 100 = .ok (.aload_n 0, 1) := by decide +kernel
theorem dX12_weekOn_101 : decode cX12_weekOn 101 = .ok (.getfield 77, 3) := by decide +kernel
theorem dX12_weekOn_104 : decode cX12_weekOn 104 = .ok (.if_icmp .ge 79, 3) := by decide +kernel
theorem dX12_weekOn_107 : decode cX12_weekOn 107 = .ok (.iconst 3, 1) := by decide +kernel
theorem dX12_weekOn_108 : decode cX12_weekOn 108 = .ok (.iload_n 2, 1) := by decide +kernel
theorem dX12_weekOn_109 : decode cX12_weekOn 109 = .ok (.imul, 1) := by decide +kernel
theorem dX12_weekOn_110 : decode cX12_weekOn 110 = .ok (.aload_n 0, 1) := by decide +kernel
theorem dX12_weekOn_111 : decode cX12_weekOn 111 = .ok (.getfield 25, 3) := by decide +kernel
theorem dX12_weekOn_114 : decode cX12_weekOn 114 = .ok (.iload_n 2, 1) := by decide +kernel
theorem dX12_weekOn_115 : decode cX12_weekOn 115 = .ok (.iaload, 1) := by decide +kernel
theorem dX12_weekOn_116 : decode cX12_weekOn 116 = .ok (.iadd, 1) := by decide +kernel
theorem dX12_weekOn_117 : decode cX12_weekOn 117 = .ok (.istore_n 3, 1) := by decide +kernel
theorem dX12_weekOn_118 : decode cX12_weekOn 118 = .ok (.aload_n 0, 1) := by decide +kernel
theorem dX12_weekOn_119 : decode cX12_weekOn 119 = .ok (.getfield 34, 3) := by decide +kernel
theorem dX12_weekOn_122 : decode cX12_weekOn 122 = .ok (.iload_n 3, 1) := by decide +kernel
theorem dX12_weekOn_123 : decode cX12_weekOn 123 = .ok (.iaload, 1) := by decide +kernel
theorem dX12_weekOn_124 : decode cX12_weekOn 124 = .ok (.aload_n 0, 1) := by decide +kernel
theorem dX12_weekOn_125 : decode cX12_weekOn 125 = .ok (.getfield 28, 3) := by decide +kernel
theorem dX12_weekOn_128 : decode cX12_weekOn 128 = .ok (.iload_n 2, 1) := by decide +kernel
theorem dX12_weekOn_129 : decode cX12_weekOn 129 = .ok (.iaload, 1) := by decide +kernel
theorem dX12_weekOn_130 : decode cX12_weekOn 130 = .ok (.if_icmp .ge 12, 3) := by decide +kernel
theorem dX12_weekOn_133 : decode cX12_weekOn 133 = .ok (.aload_n 0, 1) := by decide +kernel
theorem dX12_weekOn_134 : decode cX12_weekOn 134 = .ok (.getfield 34, 3) := by decide +kernel
theorem dX12_weekOn_137 : decode cX12_weekOn 137 = .ok (.iload_n 3, 1) := by decide +kernel
theorem dX12_weekOn_138 : decode cX12_weekOn 138 = .ok (.iaload, 1) := by decide +kernel
theorem dX12_weekOn_139 : decode cX12_weekOn 139 = .ok (.goto 9, 3) := by decide +kernel
theorem dX12_weekOn_142 : decode cX12_weekOn 142 = .ok (.aload_n 0, 1) := by decide +kernel
theorem dX12_weekOn_143 : decode cX12_weekOn 143 = .ok (.getfield 28, 3) := by decide +kernel
theorem dX12_weekOn_146 : decode cX12_weekOn 146 = .ok (.iload_n 2, 1) := by decide +kernel
theorem dX12_weekOn_147 : decode cX12_weekOn 147 = .ok (.iaload, 1) := by decide +kernel
theorem dX12_weekOn_148 : decode cX12_weekOn 148 = .ok (.istore 4, 2) := by decide +kernel
theorem dX12_weekOn_150 : decode cX12_weekOn 150 = .ok (.aload_n 0, 1) := by decide +kernel
theorem dX12_weekOn_151 : decode cX12_weekOn 151 = .ok (.getfield 34, 3) := by decide +kernel
theorem dX12_weekOn_154 : decode cX12_weekOn 154 = .ok (.iload_n 3, 1) := by decide +kernel
theorem dX12_weekOn_155 : decode cX12_weekOn 155 = .ok (.dup2, 1) := by decide +kernel
theorem dX12_weekOn_156 : decode cX12_weekOn 156 = .ok (.iaload, 1) := by decide +kernel
theorem dX12_weekOn_157 : decode cX12_weekOn 157 = .ok (.iload 4, 2) := by decide +kernel
theorem dX12_weekOn_159 : decode cX12_weekOn 159 = .ok (.isub, 1) := by decide +kernel
theorem dX12_weekOn_160 : decode cX12_weekOn 160 = .ok (.iastore, 1) := by decide +kernel
theorem dX12_weekOn_161 : decode cX12_weekOn 161 = .ok (.aload_n 0, 1) := by decide +kernel
theorem dX12_weekOn_162 : decode cX12_weekOn 162 = .ok (.getfield 46, 3) := by decide +kernel
theorem dX12_weekOn_165 : decode cX12_weekOn 165 = .ok (.iload_n 2, 1) := by decide +kernel
theorem dX12_weekOn_166 : decode cX12_weekOn 166 = .ok (.dup2, 1) := by decide +kernel
theorem dX12_weekOn_167 : decode cX12_weekOn 167 = .ok (.iaload, 1) := by decide +kernel
theorem dX12_weekOn_168 : decode cX12_weekOn 168 = .ok (.iload 4, 2) := by decide +kernel
theorem dX12_weekOn_170 : decode cX12_weekOn 170 = .ok (.iadd, 1) := by decide +kernel
theorem dX12_weekOn_171 : decode cX12_weekOn 171 = .ok (.iastore, 1) := by decide +kernel
theorem dX12_weekOn_172 : decode cX12_weekOn 172 = .ok (.iload_n 1, 1) := by decide +kernel
theorem dX12_weekOn_173 : decode cX12_weekOn 173 = .ok (.iload 4, 2) := by decide +kernel
theorem dX12_weekOn_175 : decode cX12_weekOn 175 = .ok (.iadd, 1) := by decide +kernel
theorem dX12_weekOn_176 : decode cX12_weekOn 176 = .ok (.istore_n 1, 1) := by decide +kernel
theorem dX12_weekOn_177 : decode cX12_weekOn 177 = .ok (.iinc 2 1, 3) := by decide +kernel
theorem dX12_weekOn_180 : decode cX12_weekOn 180 = .ok (.goto (-81), 3) := by decide +kernel
theorem dX12_weekOn_183 : decode cX12_weekOn 183 = .ok (.aload_n 0, 1) := by decide +kernel
theorem dX12_weekOn_184 : decode cX12_weekOn 184 = .ok (.dup, 1) := by decide +kernel
theorem dX12_weekOn_185 : decode cX12_weekOn 185 = .ok (.getfield 122, 3) := by decide +kernel
theorem dX12_weekOn_188 : decode cX12_weekOn 188 = .ok (.iconst 1, 1) := by decide +kernel
theorem dX12_weekOn_189 : decode cX12_weekOn 189 = .ok (.iadd, 1) := by decide +kernel
theorem dX12_weekOn_190 : decode cX12_weekOn 190 = .ok (.putfield 122, 3) := by decide +kernel
theorem dX12_weekOn_193 : decode cX12_weekOn 193 = .ok (.iload_n 1, 1) := by decide +kernel
theorem dX12_weekOn_194 : decode cX12_weekOn 194 = .ok (.ireturn, 1) := by decide +kernel
theorem dX12_debt_0 : decode cX12_debt 0 = .ok (.aload_n 0, 1) := by decide +kernel
theorem dX12_debt_1 : decode cX12_debt 1 = .ok (.getfield 37, 3) := by decide +kernel
theorem dX12_debt_4 : decode cX12_debt 4 = .ok (.bipush 6, 2) := by decide +kernel
theorem dX12_debt_6 : decode cX12_debt 6 = .ok (.iload_n 1, 1) := by decide +kernel
theorem dX12_debt_7 : decode cX12_debt 7 = .ok (.imul, 1) := by decide +kernel
theorem dX12_debt_8 : decode cX12_debt 8 = .ok (.iload_n 2, 1) := by decide +kernel
theorem dX12_debt_9 : decode cX12_debt 9 = .ok (.iadd, 1) := by decide +kernel
theorem dX12_debt_10 : decode cX12_debt 10 = .ok (.iaload, 1) := by decide +kernel
theorem dX12_debt_11 : decode cX12_debt 11 = .ok (.ireturn, 1) := by decide +kernel
theorem dX12_lessen_0 : decode cX12_lessen 0 = .ok (.iload_n 3, 1) := by decide +kernel
theorem dX12_lessen_1 : decode cX12_lessen 1 = .ok (.ifCond .lt 7, 3) := by decide +kernel
theorem dX12_lessen_4 : decode cX12_lessen 4 = .ok (.iconst 1, 1) := by decide +kernel
theorem dX12_lessen_5 : decode cX12_lessen 5 = .ok (.goto 4, 3) := by decide +kernel
theorem dX12_lessen_8 : decode cX12_lessen 8 = .ok (.iconst 0, 1) := by decide +kernel
theorem dX12_lessen_9 : decode cX12_lessen 9 = .ok (.istore 4, 2) := by decide +kernel
theorem dX12_lessen_11 : decode cX12_lessen 11 = .ok (.aload_n 0, 1) := by decide +kernel
theorem dX12_lessen_12 : decode cX12_lessen 12 = .ok (.iload_n 1, 1) := by decide +kernel
theorem dX12_lessen_13 : decode cX12_lessen 13 = .ok (.iload_n 2, 1) := by decide +kernel
theorem dX12_lessen_14 : decode cX12_lessen 14 = .ok (.invokevirtual 125, 3) := by decide +kernel
theorem dX12_lessen_17 : decode cX12_lessen 17 = .ok (.iload 4, 2) := by decide +kernel
theorem dX12_lessen_19 : decode cX12_lessen 19 = .ok (.ifCond .eq 12, 3) := by decide +kernel
theorem dX12_lessen_22 : decode cX12_lessen 22 = .ok (.aload_n 0, 1) := by decide +kernel
theorem dX12_lessen_23 : decode cX12_lessen 23 = .ok (.iload_n 2, 1) := by decide +kernel
theorem dX12_lessen_24 : decode cX12_lessen 24 = .ok (.iload_n 3, 1) := by decide +kernel
theorem dX12_lessen_25 : decode cX12_lessen 25 = .ok (.invokevirtual 125, 3) := by decide +kernel
theorem dX12_lessen_28 : decode cX12_lessen 28 = .ok (.goto 9, 3) := by decide +kernel
theorem dX12_lessen_31 : decode cX12_lessen 31 = .ok (.aload_n 0, 1) := by decide +kernel
theorem dX12_lessen_32 : decode cX12_lessen 32 = .ok (.iload_n 2, 1) := by decide +kernel
theorem dX12_lessen_33 : decode cX12_lessen 33 = .ok (.iload_n 1, 1) := by decide +kernel
theorem dX12_lessen_34 : decode cX12_lessen 34 = .ok (.invokevirtual 125, 3) := by decide +kernel
theorem dX12_lessen_37 : decode cX12_lessen 37 = .ok (.if_icmp .ge 12, 3) := by decide +kernel
theorem dX12_lessen_40 : decode cX12_lessen 40 = .ok (.aload_n 0, 1) := by decide +kernel
theorem dX12_lessen_41 : decode cX12_lessen 41 = .ok (.iload_n 1, 1) := by decide +kernel
theorem dX12_lessen_42 : decode cX12_lessen 42 = .ok (.iload_n 2, 1) := by decide +kernel
theorem dX12_lessen_43 : decode cX12_lessen 43 = .ok (.invokevirtual 125, 3) := by decide +kernel
theorem dX12_lessen_46 : decode cX12_lessen 46 = .ok (.goto 23, 3) := by decide +kernel
theorem dX12_lessen_49 : decode cX12_lessen 49 = .ok (.iload 4, 2) := by decide +kernel
theorem dX12_lessen_51 : decode cX12_lessen 51 = .ok (.ifCond .eq 12, 3) := by decide +kernel
theorem dX12_lessen_54 : decode cX12_lessen 54 = .ok (.aload_n 0, 1) := by decide +kernel
theorem dX12_lessen_55 : decode cX12_lessen 55 = .ok (.iload_n 2, 1) := by decide +kernel
theorem dX12_lessen_56 : decode cX12_lessen 56 = .ok (.iload_n 3, 1) := by decide +kernel
theorem dX12_lessen_57 : decode cX12_lessen 57 = .ok (.invokevirtual 125, 3) := by decide +kernel
theorem dX12_lessen_60 : decode cX12_lessen 60 = .ok (.goto 9, 3) := by decide +kernel
theorem dX12_lessen_63 : decode cX12_lessen 63 = .ok (.aload_n 0, 1) := by decide +kernel
theorem dX12_lessen_64 : decode cX12_lessen 64 = .ok (.iload_n 2, 1) := by decide +kernel
theorem dX12_lessen_65 : decode cX12_lessen 65 = .ok (.iload_n 1, 1) := by decide +kernel
theorem dX12_lessen_66 : decode cX12_lessen 66 = .ok (.invokevirtual 125, 3) := by decide +kernel
theorem dX12_lessen_69 : decode cX12_lessen 69 = .ok (.istore 5, 2) := by decide +kernel
theorem dX12_lessen_71 : decode cX12_lessen 71 = .ok (.iload 4, 2) := by decide +kernel
theorem dX12_lessen_73 : decode cX12_lessen 73 = .ok (.ifCond .eq 23, 3) := by decide +kernel
theorem dX12_lessen_76 : decode cX12_lessen 76 = .ok (.aload_n 0, 1) := by decide +kernel
theorem dX12_lessen_77 : decode cX12_lessen 77 = .ok (.iload_n 3, 1) := by decide +kernel
theorem dX12_lessen_78 : decode cX12_lessen 78 = .ok (.iload_n 1, 1) := by decide +kernel
theorem dX12_lessen_79 : decode cX12_lessen 79 = .ok (.invokevirtual 125, 3) := by decide +kernel
theorem dX12_lessen_82 : decode cX12_lessen 82 = .ok (.iload 5, 2) := by decide +kernel
theorem dX12_lessen_84 : decode cX12_lessen 84 = .ok (.if_icmp .ge 12, 3) := by decide +kernel
theorem dX12_lessen_87 : decode cX12_lessen 87 = .ok (.aload_n 0, 1) := by decide +kernel
theorem dX12_lessen_88 : decode cX12_lessen 88 = .ok (.iload_n 3, 1) := by decide +kernel
theorem dX12_lessen_89 : decode cX12_lessen 89 = .ok (.iload_n 1, 1) := by decide +kernel
theorem dX12_lessen_90 : decode cX12_lessen 90 = .ok (.invokevirtual 125, 3) := by decide +kernel
theorem dX12_lessen_93 : decode cX12_lessen 93 = .ok (.goto 5, 3) := by decide +kernel
theorem dX12_lessen_96 : decode cX12_lessen 96 = .ok (.iload 5, 2) := by decide +kernel
theorem dX12_lessen_98 : decode cX12_lessen 98 = .ok (.istore 5, 2) := by decide +kernel
theorem dX12_lessen_100 : decode cX12_lessen 100 = .ok (.aload_n 0, 1) := by decide +kernel
theorem dX12_lessen_101 : decode cX12_lessen 101 = .ok (.getfield 37, 3) := by decide +kernel
theorem dX12_lessen_104 : decode cX12_lessen 104 = .ok (.bipush 6, 2) := by decide +kernel
theorem dX12_lessen_106 : decode cX12_lessen 106 = .ok (.iload_n 1, 1) := by decide +kernel
theorem dX12_lessen_107 : decode cX12_lessen 107 = .ok (.imul, 1) := by decide +kernel
theorem dX12_lessen_108 : decode cX12_lessen 108 = .ok (.iload_n 2, 1) := by decide +kernel
theorem dX12_lessen_109 : decode cX12_lessen 109 = .ok (.iadd, 1) := by decide +kernel
theorem dX12_lessen_110 : decode cX12_lessen 110 = .ok (.dup2, 1) := by decide +kernel
theorem dX12_lessen_111 : decode cX12_lessen 111 = .ok (.iaload, 1) := by decide +kernel
theorem dX12_lessen_112 : decode cX12_lessen 112 = .ok (.iload 5, 2) := by decide +kernel
theorem dX12_lessen_114 : decode cX12_lessen 114 = .ok (.isub, 1) := by decide +kernel
theorem dX12_lessen_115 : decode cX12_lessen 115 = .ok (.iastore, 1) := by decide +kernel
theorem dX12_lessen_116 : decode cX12_lessen 116 = .ok (.iload 4, 2) := by decide +kernel
theorem dX12_lessen_118 : decode cX12_lessen 118 = .ok (.ifCond .eq 38, 3) := by decide +kernel
theorem dX12_lessen_121 : decode cX12_lessen 121 = .ok (.aload_n 0, 1) := by decide +kernel
theorem dX12_lessen_122 : decode cX12_lessen 122 = .ok (.getfield 37, 3) := by decide +kernel
theorem dX12_lessen_125 : decode cX12_lessen 125 = .ok (.bipush 6, 2) := by decide +kernel
theorem dX12_lessen_127 : decode cX12_lessen 127 = .ok (.iload_n 2, 1) := by decide +kernel
theorem dX12_lessen_128 : decode cX12_lessen 128 = .ok (.imul, 1) := by decide +kernel
theorem dX12_lessen_129 : decode cX12_lessen 129 = .ok (.iload_n 3, 1) := by decide +kernel
theorem dX12_lessen_130 : decode cX12_lessen 130 = .ok (.iadd, 1) := by decide +kernel
theorem dX12_lessen_131 : decode cX12_lessen 131 = .ok (.dup2, 1) := by decide +kernel
theorem dX12_lessen_132 : decode cX12_lessen 132 = .ok (.iaload, 1) := by decide +kernel
theorem dX12_lessen_133 : decode cX12_lessen 133 = .ok (.iload 5, 2) := by decide +kernel
theorem dX12_lessen_135 : decode cX12_lessen 135 = .ok (.isub, 1) := by decide +kernel
theorem dX12_lessen_136 : decode cX12_lessen 136 = .ok (.iastore, 1) := by decide +kernel
theorem dX12_lessen_137 : decode cX12_lessen 137 = .ok (.aload_n 0, 1) := by decide +kernel
theorem dX12_lessen_138 : decode cX12_lessen 138 = .ok (.getfield 37, 3) := by decide +kernel
theorem dX12_lessen_141 : decode cX12_lessen 141 = .ok (.bipush 6, 2) := by decide +kernel
theorem dX12_lessen_143 : decode cX12_lessen 143 = .ok (.iload_n 3, 1) := by decide +kernel
theorem dX12_lessen_144 : decode cX12_lessen 144 = .ok (.imul, 1) := by decide +kernel
theorem dX12_lessen_145 : decode cX12_lessen 145 = .ok (.iload_n 1, 1) := by decide +kernel
theorem dX12_lessen_146 : decode cX12_lessen 146 = .ok (.iadd, 1) := by decide +kernel
theorem dX12_lessen_147 : decode cX12_lessen 147 = .ok (.dup2, 1) := by decide +kernel
theorem dX12_lessen_148 : decode cX12_lessen 148 = .ok (.iaload, 1) := by decide +kernel
theorem dX12_lessen_149 : decode cX12_lessen 149 = .ok (.iload 5, 2) := by decide +kernel
theorem dX12_lessen_151 : decode cX12_lessen 151 = .ok (.isub, 1) := by decide +kernel
theorem dX12_lessen_152 : decode cX12_lessen 152 = .ok (.iastore, 1) := by decide +kernel
theorem dX12_lessen_153 : decode cX12_lessen 153 = .ok (.goto 19, 3) := by decide +kernel
theorem dX12_lessen_156 : decode cX12_lessen 156 = .ok (.aload_n 0, 1) := by decide +kernel
theorem dX12_lessen_157 : decode cX12_lessen 157 = .ok (.getfield 37, 3) := by decide +kernel
theorem dX12_lessen_160 : decode cX12_lessen 160 = .ok (.bipush 6, 2) := by decide +kernel
theorem dX12_lessen_162 : decode cX12_lessen 162 = .ok (.iload_n 2, 1) := by decide +kernel
theorem dX12_lessen_163 : decode cX12_lessen 163 = .ok (.imul, 1) := by decide +kernel
theorem dX12_lessen_164 : decode cX12_lessen 164 = .ok (.iload_n 1, 1) := by decide +kernel
theorem dX12_lessen_165 : decode cX12_lessen 165 = .ok (.iadd, 1) := by decide +kernel
theorem dX12_lessen_166 : decode cX12_lessen 166 = .ok (.dup2, 1) := by decide +kernel
theorem dX12_lessen_167 : decode cX12_lessen 167 = .ok (.iaload, 1) := by decide +kernel
theorem dX12_lessen_168 : decode cX12_lessen 168 = .ok (.iload 5, 2) := by decide +kernel
theorem dX12_lessen_170 : decode cX12_lessen 170 = .ok (.isub, 1) := by decide +kernel
theorem dX12_lessen_171 : decode cX12_lessen 171 = .ok (.iastore, 1) := by decide +kernel
theorem dX12_lessen_172 : decode cX12_lessen 172 = .ok (.iload 5, 2) := by decide +kernel
theorem dX12_lessen_174 : decode cX12_lessen 174 = .ok (.ireturn, 1) := by decide +kernel
theorem dX12_strikeOne_0 : decode cX12_strikeOne 0 = .ok (.iconst 0, 1) := by decide +kernel
theorem dX12_strikeOne_1 : decode cX12_strikeOne 1 = .ok (.istore_n 1, 1) := by decide +kernel
theorem dX12_strikeOne_2 : decode cX12_strikeOne 2 = .ok (.iload_n 1, 1) := by decide +kernel
theorem dX12_strikeOne_3 : decode cX12_strikeOne 3 = .ok (.aload_n 0, 1) := by decide +kernel
theorem dX12_strikeOne_4 : decode cX12_strikeOne 4 = .ok (.getfield 77, 3) := by decide +kernel
theorem dX12_strikeOne_7 : decode cX12_strikeOne 7 = .ok (.if_icmp .ge 53, 3) := by decide +kernel
theorem dX12_strikeOne_10 : decode cX12_strikeOne 10 = .ok (.iload_n 1, 1) := by decide +kernel
theorem dX12_strikeOne_11 : decode cX12_strikeOne 11 = .ok (.iconst 1, 1) := by decide +kernel
theorem dX12_strikeOne_12 : decode cX12_strikeOne 12 = .ok (.iadd, 1) := by decide +kernel
theorem dX12_strikeOne_13 : decode cX12_strikeOne 13 = .ok (.istore_n 2, 1) := by decide +kernel
theorem dX12_strikeOne_14 : decode cX12_strikeOne 14 = .ok (.iload_n 2, 1) := by decide +kernel
theorem dX12_strikeOne_15 : decode cX12_strikeOne 15 = .ok (.aload_n 0, 1) := by decide +kernel
theorem dX12_strikeOne_16 : decode cX12_strikeOne 16 = .ok (.getfield 77, 3) := by decide +kernel
theorem dX12_strikeOne_19 : decode cX12_strikeOne 19 = .ok (.if_icmp .ge 35, 3) := by decide +kernel
theorem dX12_strikeOne_22 : decode cX12_strikeOne 22 = .ok (.aload_n 0, 1) := by decide +kernel
theorem dX12_strikeOne_23 : decode cX12_strikeOne 23 = .ok (.iload_n 1, 1) := by decide +kernel
theorem dX12_strikeOne_24 : decode cX12_strikeOne 24 = .ok (.iload_n 2, 1) := by decide +kernel
theorem dX12_strikeOne_25 : decode cX12_strikeOne 25 = .ok (.iconst (-1), 1) := by decide +kernel
theorem dX12_strikeOne_26 : decode cX12_strikeOne 26 = .ok (.invokevirtual 129, 3) := by decide +kernel
theorem dX12_strikeOne_29 : decode cX12_strikeOne 29 = .ok (.istore_n 3, 1) := by decide +kernel
theorem dX12_strikeOne_30 : decode cX12_strikeOne 30 = .ok (.iload_n 3, 1) := by decide +kernel
theorem dX12_strikeOne_31 : decode cX12_strikeOne 31 = .ok (.ifCond .le 17, 3) := by decide +kernel
theorem dX12_strikeOne_34 : decode cX12_strikeOne 34 = .ok (.aload_n 0, 1) := by decide +kernel
theorem dX12_strikeOne_35 : decode cX12_strikeOne 35 = .ok (.dup, 1) := by decide +kernel
theorem dX12_strikeOne_36 : decode cX12_strikeOne 36 = .ok (.getfield 133, 3) := by decide +kernel
theorem dX12_strikeOne_39 : decode cX12_strikeOne 39 = .ok (.iconst 2, 1) := by decide +kernel
theorem dX12_strikeOne_40 : decode cX12_strikeOne 40 = .ok (.iload_n 3, 1) := by decide +kernel
theorem dX12_strikeOne_41 : decode cX12_strikeOne 41 = .ok (.imul, 1) := by decide +kernel
theorem dX12_strikeOne_42 : decode cX12_strikeOne 42 = .ok (.iadd, 1) := by decide +kernel
theorem dX12_strikeOne_43 : decode cX12_strikeOne 43 = .ok (.putfield 133, 3) := by decide +kernel
theorem dX12_strikeOne_46 : decode cX12_strikeOne 46 = .ok (.iconst 1, 1) := by decide +kernel
theorem dX12_strikeOne_47 : decode cX12_strikeOne 47 = .ok (.ireturn, 1) := by decide +kernel
theorem dX12_strikeOne_48 : decode cX12_strikeOne 48 = .ok (.iinc 2 1, 3) := by decide +kernel
theorem dX12_strikeOne_51 : decode cX12_strikeOne 51 = .ok (.goto (-37), 3) := by decide +kernel
theorem dX12_strikeOne_54 : decode cX12_strikeOne 54 = .ok (.iinc 1 1, 3) := by decide +kernel
theorem dX12_strikeOne_57 : decode cX12_strikeOne 57 = .ok (.goto (-55), 3) := by decide +kernel
theorem dX12_strikeOne_60 : decode cX12_strikeOne 60 = .ok (.iconst 0, 1) := by decide +kernel
theorem dX12_strikeOne_61 : decode cX12_strikeOne 61 = .ok (.istore_n 1, 1) := by decide +kernel
theorem dX12_strikeOne_62 : decode cX12_strikeOne 62 = .ok (.iload_n 1, 1) := by decide +kernel
theorem dX12_strikeOne_63 : decode cX12_strikeOne 63 = .ok (.aload_n 0, 1) := by decide +kernel
theorem dX12_strikeOne_64 : decode cX12_strikeOne 64 = .ok (.getfield 77, 3) := by decide +kernel
theorem dX12_strikeOne_67 : decode cX12_strikeOne 67 = .ok (.if_icmp .ge 96, 3) := by decide +kernel
theorem dX12_strikeOne_70 : decode cX12_strikeOne 70 = .ok (.iconst 0, 1) := by decide +kernel
theorem dX12_strikeOne_71 : decode cX12_strikeOne 71 = .ok (.istore_n 2, 1) := by decide +kernel
theorem dX12_strikeOne_72 : decode cX12_strikeOne 72 = .ok (.iload_n 2, 1) := by decide +kernel
theorem dX12_strikeOne_73 : decode cX12_strikeOne 73 = .ok (.aload_n 0, 1) := by decide +kernel
theorem dX12_strikeOne_74 : decode cX12_strikeOne 74 = .ok (.getfield 77, 3) := by decide +kernel
theorem dX12_strikeOne_77 : decode cX12_strikeOne 77 = .ok (.aload_n 0, 1) := by decide +kernel
theorem dX12_strikeOne_78 : decode cX12_strikeOne 78 = .ok (.getfield 77, 3) := by decide +kernel
theorem dX12_strikeOne_81 : decode cX12_strikeOne 81 = .ok (.imul, 1) := by decide +kernel
theorem dX12_strikeOne_82 : decode cX12_strikeOne 82 = .ok (.if_icmp .ge 75, 3) := by decide +kernel
theorem dX12_strikeOne_85 : decode cX12_strikeOne 85 = .ok (.iload_n 2, 1) := by decide +kernel
theorem dX12_strikeOne_86 : decode cX12_strikeOne 86 = .ok (.aload_n 0, 1) := by decide +kernel
theorem dX12_strikeOne_87 : decode cX12_strikeOne 87 = .ok (.getfield 77, 3) := by decide +kernel
theorem dX12_strikeOne_90 : decode cX12_strikeOne 90 = .ok (.idiv, 1) := by decide +kernel
theorem dX12_strikeOne_91 : decode cX12_strikeOne 91 = .ok (.istore_n 3, 1) := by decide +kernel
theorem dX12_strikeOne_92 : decode cX12_strikeOne 92 = .ok (.iload_n 2, 1) := by decide +kernel
theorem dX12_strikeOne_93 : decode cX12_strikeOne 93 = .ok (.aload_n 0, 1) := by decide +kernel
theorem dX12_strikeOne_94 : decode cX12_strikeOne 94 = .ok (.getfield 77, 3) := by decide +kernel
theorem dX12_strikeOne_97 : decode cX12_strikeOne 97 = .ok (.irem, 1) := by decide +kernel
theorem dX12_strikeOne_98 : decode cX12_strikeOne 98 = .ok (.istore 4, 2) := by decide +kernel
theorem dX12_strikeOne_100 : decode cX12_strikeOne 100 = .ok (.iload_n 3, 1) := by decide +kernel
theorem dX12_strikeOne_101 : decode cX12_strikeOne 101 = .ok (.iload_n 1, 1) := by decide +kernel
theorem dX12_strikeOne_102 : decode cX12_strikeOne 102 = .ok (.if_icmp .le 26, 3) := by decide +kernel
theorem dX12_strikeOne_105 : decode cX12_strikeOne 105 = .ok (.iload 4, 2) := by decide +kernel
theorem dX12_strikeOne_107 : decode cX12_strikeOne 107 = .ok (.iload_n 1, 1) := by decide +kernel
theorem dX12_strikeOne_108 : decode cX12_strikeOne 108 = .ok (.if_icmp .le 20, 3) := by decide +kernel
theorem dX12_strikeOne_111 : decode cX12_strikeOne 111 = .ok (.iload_n 3, 1) := by decide +kernel
theorem dX12_strikeOne_112 : decode cX12_strikeOne 112 = .ok (.iload 4, 2) := by decide +kernel
theorem dX12_strikeOne_114 : decode cX12_strikeOne 114 = .ok (.if_icmp .eq 14, 3) := by decide +kernel
theorem dX12_strikeOne_117 : decode cX12_strikeOne 117 = .ok (.aload_n 0, 1) := by decide +kernel
theorem dX12_strikeOne_118 : decode cX12_strikeOne 118 = .ok (.iload_n 1, 1) := by decide +kernel
theorem dX12_strikeOne_119 : decode cX12_strikeOne 119 = .ok (.iload_n 3, 1) := by decide +kernel
theorem dX12_strikeOne_120 : decode cX12_strikeOne 120 = .ok (.iload 4, 2) := by decide +kernel
theorem dX12_strikeOne_122 : decode cX12_strikeOne 122 = .ok (.invokevirtual 129, 3) := by decide +kernel
theorem dX12_strikeOne_125 : decode cX12_strikeOne 125 = .ok (.goto 4, 3) := by decide +kernel
theorem dX12_strikeOne_128 : decode cX12_strikeOne 128 = .ok (.iconst 0, 1) := by decide +kernel
theorem dX12_strikeOne_129 : decode cX12_strikeOne 129 = .ok (.istore 5, 2) := by decide +kernel
theorem dX12_strikeOne_131 : decode cX12_strikeOne 131 = .ok (.iload 5, 2) := by decide +kernel
theorem dX12_strikeOne_133 : decode cX12_strikeOne 133 = .ok (.ifCond .le 18, 3) := by decide +kernel
theorem dX12_strikeOne_136 : decode cX12_strikeOne 136 = .ok (.aload_n 0, 1) := by decide +kernel
theorem dX12_strikeOne_137 : decode cX12_strikeOne 137 = .ok (.dup, 1) := by decide +kernel
theorem dX12_strikeOne_138 : decode cX12_strikeOne 138 = .ok (.getfield 133, 3) := by decide +kernel
theorem dX12_strikeOne_141 : decode cX12_strikeOne 141 = .ok (.iconst 3, 1) := by decide +kernel
theorem dX12_strikeOne_142 : decode cX12_strikeOne 142 = .ok (.iload 5, 2) := by decide +kernel
theorem dX12_strikeOne_144 : decode cX12_strikeOne 144 = .ok (.imul, 1) := by decide +kernel
theorem dX12_strikeOne_145 : decode cX12_strikeOne 145 = .ok (.iadd, 1) := by decide +kernel
theorem dX12_strikeOne_146 : decode cX12_strikeOne 146 = .ok (.putfield 133, 3) := by decide +kernel
theorem dX12_strikeOne_149 : decode cX12_strikeOne 149 = .ok (.iconst 1, 1) := by decide +kernel
theorem dX12_strikeOne_150 : decode cX12_strikeOne 150 = .ok (.ireturn, 1) := by decide +kernel
theorem dX12_strikeOne_151 : decode cX12_strikeOne 151 = .ok (.iinc 2 1, 3) := by decide +kernel
theorem dX12_strikeOne_154 : decode cX12_strikeOne 154 = .ok (.goto (-82), 3) := by decide +kernel
theorem dX12_strikeOne_157 : decode cX12_strikeOne 157 = .ok (.iinc 1 1, 3) := by decide +kernel
theorem dX12_strikeOne_160 : decode cX12_strikeOne 160 = .ok (.goto (-98), 3) := by decide +kernel
theorem dX12_strikeOne_163 : decode cX12_strikeOne 163 = .ok (.iconst 0, 1) := by decide +kernel
theorem dX12_strikeOne_164 : decode cX12_strikeOne 164 = .ok (.ireturn, 1) := by decide +kernel
theorem dX12_strikeAll_0 : decode cX12_strikeAll 0 = .ok (.aload_n 0, 1) := by decide +kernel
theorem dX12_strikeAll_1 : decode cX12_strikeAll 1 = .ok (.iconst 0, 1) := by decide +kernel
theorem dX12_strikeAll_2 : decode cX12_strikeAll 2 = .ok (.putfield 133, 3) := by decide +kernel
theorem dX12_strikeAll_5 : decode cX12_strikeAll 5 = .ok (.iconst 0, 1) := by decide +kernel
theorem dX12_strikeAll_6 : decode cX12_strikeAll 6 = .ok (.istore_n 1, 1) := by decide +kernel
theorem dX12_strikeAll_7 : decode cX12_strikeAll 7 = .ok (.aload_n 0, 1) := by decide +kernel
theorem dX12_strikeAll_8 : decode cX12_strikeAll 8 = .ok (.invokevirtual 136, 3) := by decide +kernel
theorem dX12_strikeAll_11 : decode cX12_strikeAll 11 = .ok (.ifCond .eq 9, 3) := by decide +kernel
theorem dX12_strikeAll_14 : decode cX12_strikeAll 14 = .ok (.iinc 1 1, 3) := by decide +kernel
theorem dX12_strikeAll_17 : decode cX12_strikeAll 17 = .ok (.goto (-10), 3) := by decide +kernel
theorem dX12_strikeAll_20 : decode cX12_strikeAll 20 = .ok (.iload_n 1, 1) := by decide +kernel
theorem dX12_strikeAll_21 : decode cX12_strikeAll 21 = .ok (.ireturn, 1) := by decide +kernel
theorem dX12_carry_0 : decode cX12_carry 0 = .ok (.aload_n 0, 1) := by decide +kernel
theorem dX12_carry_1 : decode cX12_carry 1 = .ok (.getfield 140, 3) := by decide +kernel
theorem dX12_carry_4 : decode cX12_carry 4 = .ok (.ifCond .eq 13, 3) := by decide +kernel
theorem dX12_carry_7 : decode cX12_carry 7 = .ok (.aload_n 0, 1) := by decide +kernel
theorem dX12_carry_8 : decode cX12_carry 8 = .ok (.getfield 144, 3) := by decide +kernel
theorem dX12_carry_11 : decode cX12_carry 11 = .ok (.aload_n 0, 1) := by decide +kernel
theorem dX12_carry_12 : decode cX12_carry 12 = .ok (.getfield 147, 3) := by decide +kernel
theorem dX12_carry_15 : decode cX12_carry 15 = .ok (.iload_n 1, 1) := by decide +kernel
theorem dX12_carry_16 : decode cX12_carry 16 = .ok (.iastore, 1) := by decide +kernel
theorem dX12_carry_17 : decode cX12_carry 17 = .ok (.aload_n 0, 1) := by decide +kernel
theorem dX12_carry_18 : decode cX12_carry 18 = .ok (.dup, 1) := by decide +kernel
theorem dX12_carry_19 : decode cX12_carry 19 = .ok (.getfield 147, 3) := by decide +kernel
theorem dX12_carry_22 : decode cX12_carry 22 = .ok (.iconst 1, 1) := by decide +kernel
theorem dX12_carry_23 : decode cX12_carry 23 = .ok (.iadd, 1) := by decide +kernel
theorem dX12_carry_24 : decode cX12_carry 24 = .ok (.putfield 147, 3) := by decide +kernel
theorem dX12_carry_27 : decode cX12_carry 27 = .ok (.aload_n 0, 1) := by decide +kernel
theorem dX12_carry_28 : decode cX12_carry 28 = .ok (.getfield 144, 3) := by decide +kernel
theorem dX12_carry_31 : decode cX12_carry 31 = .ok (.aload_n 0, 1) := by decide +kernel
theorem dX12_carry_32 : decode cX12_carry 32 = .ok (.getfield 147, 3) := by decide +kernel
theorem dX12_carry_35 : decode cX12_carry 35 = .ok (.iconst 1, 1) := by decide +kernel
theorem dX12_carry_36 : decode cX12_carry 36 = .ok (.isub, 1) := by decide +kernel
theorem dX12_carry_37 : decode cX12_carry 37 = .ok (.iaload, 1) := by decide +kernel
theorem dX12_carry_38 : decode cX12_carry 38 = .ok (.ireturn, 1) := by decide +kernel
theorem dX12_carryAll_0 : decode cX12_carryAll 0 = .ok (.aload_n 0, 1) := by decide +kernel
theorem dX12_carryAll_1 : decode cX12_carryAll 1 = .ok (.aload_n 1, 1) := by decide +kernel
theorem dX12_carryAll_2 : decode cX12_carryAll 2 = .ok (.putfield 144, 3) := by decide +kernel
theorem dX12_carryAll_5 : decode cX12_carryAll 5 = .ok (.aload_n 0, 1) := by decide +kernel
theorem dX12_carryAll_6 : decode cX12_carryAll 6 = .ok (.iload_n 2, 1) := by decide +kernel
theorem dX12_carryAll_7 : decode cX12_carryAll 7 = .ok (.putfield 140, 3) := by decide +kernel
theorem dX12_carryAll_10 : decode cX12_carryAll 10 = .ok (.aload_n 0, 1) := by decide +kernel
theorem dX12_carryAll_11 : decode cX12_carryAll 11 = .ok (.iconst 0, 1) := by decide +kernel
theorem dX12_carryAll_12 : decode cX12_carryAll 12 = .ok (.putfield 147, 3) := by decide +kernel
theorem dX12_carryAll_15 : decode cX12_carryAll 15 = .ok (.aload_n 0, 1) := by decide +kernel
theorem dX12_carryAll_16 : decode cX12_carryAll 16 = .ok (.aload_n 0, 1) := by decide +kernel
theorem dX12_carryAll_17 : decode cX12_carryAll 17 = .ok (.aload_n 0, 1) := by decide +kernel
theorem dX12_carryAll_18 : decode cX12_carryAll 18 = .ok (.getfield 77, 3) := by decide +kernel
theorem dX12_carryAll_21 : decode cX12_carryAll 21 = .ok (.invokevirtual 150, 3) := by decide +kernel
theorem dX12_carryAll_24 : decode cX12_carryAll 24 = .ok (.putfield 77, 3) := by decide +kernel
theorem dX12_carryAll_27 : decode cX12_carryAll 27 = .ok (.aload_n 0, 1) := by decide +kernel
theorem dX12_carryAll_28 : decode cX12_carryAll 28 = .ok (.aload_n 0, 1) := by decide +kernel
theorem dX12_carryAll_29 : decode cX12_carryAll 29 = .ok (.aload_n 0, 1) := by decide +kernel
theorem dX12_carryAll_30 : decode cX12_carryAll 30 = .ok (.getfield 97, 3) := by decide +kernel
theorem dX12_carryAll_33 : decode cX12_carryAll 33 = .ok (.invokevirtual 150, 3) := by decide +kernel
theorem dX12_carryAll_36 : decode cX12_carryAll 36 = .ok (.putfield 97, 3) := by decide +kernel
theorem dX12_carryAll_39 : decode cX12_carryAll 39 = .ok (.aload_n 0, 1) := by decide +kernel
theorem dX12_carryAll_40 : decode cX12_carryAll 40 = .ok (.aload_n 0, 1) := by decide +kernel
theorem dX12_carryAll_41 : decode cX12_carryAll 41 = .ok (.aload_n 0, 1) := by decide +kernel
theorem dX12_carryAll_42 : decode cX12_carryAll 42 = .ok (.getfield 122, 3) := by decide +kernel
theorem dX12_carryAll_45 : decode cX12_carryAll 45 = .ok (.invokevirtual 150, 3) := by decide +kernel
theorem dX12_carryAll_48 : decode cX12_carryAll 48 = .ok (.putfield 122, 3) := by decide +kernel
theorem dX12_carryAll_51 : decode cX12_carryAll 51 = .ok (.aload_n 0, 1) := by decide +kernel
theorem dX12_carryAll_52 : decode cX12_carryAll 52 = .ok (.aload_n 0, 1) := by decide +kernel
theorem dX12_carryAll_53 : decode cX12_carryAll 53 = .ok (.aload_n 0, 1) := by decide +kernel
theorem dX12_carryAll_54 : decode cX12_carryAll 54 = .ok (.getfield 153, 3) := by decide +kernel
theorem dX12_carryAll_57 : decode cX12_carryAll 57 = .ok (.invokevirtual 150, 3) := by decide +kernel
theorem dX12_carryAll_60 : decode cX12_carryAll 60 = .ok (.putfield 153, 3) := by decide +kernel
theorem dX12_carryAll_63 : decode cX12_carryAll 63 = .ok (.iconst 0, 1) := by decide +kernel
theorem dX12_carryAll_64 : decode cX12_carryAll 64 = .ok (.istore_n 3, 1) := by decide +kernel
theorem dX12_carryAll_65 : decode cX12_carryAll 65 = .ok (.iload_n 3, 1) := by decide +kernel
theorem dX12_carryAll_66 : decode cX12_carryAll 66 = .ok (.bipush 6, 2) := by decide +kernel
theorem dX12_carryAll_68 : decode cX12_carryAll 68 = .ok (.if_icmp .ge 137, 3) := by decide +kernel
theorem dX12_carryAll_71 : decode cX12_carryAll 71 = .ok (.aload_n 0, 1) := by decide +kernel
theorem dX12_carryAll_72 : decode cX12_carryAll 72 = .ok (.getfield 7, 3) := by decide +kernel
theorem dX12_carryAll_75 : decode cX12_carryAll 75 = .ok (.iload_n 3, 1) := by decide +kernel
theorem dX12_carryAll_76 : decode cX12_carryAll 76 = .ok (.aload_n 0, 1) := by decide +kernel
theorem dX12_carryAll_77 : decode cX12_carryAll 77 = .ok (.aload_n 0, 1) := by decide +kernel
theorem dX12_carryAll_78 : decode cX12_carryAll 78 = .ok (.getfield 7, 3) := by decide +kernel
theorem dX12_carryAll_81 : decode cX12_carryAll 81 = .ok (.iload_n 3, 1) := by decide +kernel
theorem dX12_carryAll_82 : decode cX12_carryAll 82 = .ok (.iaload, 1) := by decide +kernel
theorem dX12_carryAll_83 : decode cX12_carryAll 83 = .ok (.invokevirtual 150, 3) := by decide +kernel
theorem dX12_carryAll_86 : decode cX12_carryAll 86 = .ok (.iastore, 1) := by decide +kernel
theorem dX12_carryAll_87 : decode cX12_carryAll 87 = .ok (.aload_n 0, 1) := by decide +kernel
theorem dX12_carryAll_88 : decode cX12_carryAll 88 = .ok (.getfield 13, 3) := by decide +kernel
theorem dX12_carryAll_91 : decode cX12_carryAll 91 = .ok (.iload_n 3, 1) := by decide +kernel
theorem dX12_carryAll_92 : decode cX12_carryAll 92 = .ok (.aload_n 0, 1) := by decide +kernel
theorem dX12_carryAll_93 : decode cX12_carryAll 93 = .ok (.aload_n 0, 1) := by decide +kernel
theorem dX12_carryAll_94 : decode cX12_carryAll 94 = .ok (.getfield 13, 3) := by decide +kernel
theorem dX12_carryAll_97 : decode cX12_carryAll 97 = .ok (.iload_n 3, 1) := by decide +kernel
theorem dX12_carryAll_98 : decode cX12_carryAll 98 = .ok (.iaload, 1) := by decide +kernel
theorem dX12_carryAll_99 : decode cX12_carryAll 99 = .ok (.invokevirtual 150, 3) := by decide +kernel
theorem dX12_carryAll_102 : decode cX12_carryAll 102 = .ok (.iastore, 1) := by decide +kernel
theorem dX12_carryAll_103 : decode cX12_carryAll 103 = .ok (.aload_n 0, 1) := by decide +kernel
theorem dX12_carryAll_104 : decode cX12_carryAll 104 = .ok (.getfield 16, 3) := by decide +kernel
theorem dX12_carryAll_107 : decode cX12_carryAll 107 = .ok (.iload_n 3, 1) := by decide +kernel
theorem dX12_carryAll_108 : decode cX12_carryAll 108 = .ok (.aload_n 0, 1) := by decide +kernel
theorem dX12_carryAll_109 : decode cX12_carryAll 109 = .ok (.aload_n 0, 1) := by decide +kernel
theorem dX12_carryAll_110 : decode cX12_carryAll 110 = .ok (.getfield 16, 3) := by decide +kernel
theorem dX12_carryAll_113 : decode cX12_carryAll 113 = .ok (.iload_n 3, 1) := by decide +kernel
theorem dX12_carryAll_114 : decode cX12_carryAll 114 = .ok (.iaload, 1) := by decide +kernel
theorem dX12_carryAll_115 : decode cX12_carryAll 115 = .ok (.invokevirtual 150, 3) := by decide +kernel
theorem dX12_carryAll_118 : decode cX12_carryAll 118 = .ok (.iastore, 1) := by decide +kernel
theorem dX12_carryAll_119 : decode cX12_carryAll 119 = .ok (.aload_n 0, 1) := by decide +kernel
theorem dX12_carryAll_120 : decode cX12_carryAll 120 = .ok (.getfield 19, 3) := by decide +kernel
theorem dX12_carryAll_123 : decode cX12_carryAll 123 = .ok (.iload_n 3, 1) := by decide +kernel
theorem dX12_carryAll_124 : decode cX12_carryAll 124 = .ok (.aload_n 0, 1) := by decide +kernel
theorem dX12_carryAll_125 : decode cX12_carryAll 125 = .ok (.aload_n 0, 1) := by decide +kernel
theorem dX12_carryAll_126 : decode cX12_carryAll 126 = .ok (.getfield 19, 3) := by decide +kernel
theorem dX12_carryAll_129 : decode cX12_carryAll 129 = .ok (.iload_n 3, 1) := by decide +kernel
theorem dX12_carryAll_130 : decode cX12_carryAll 130 = .ok (.iaload, 1) := by decide +kernel
theorem dX12_carryAll_131 : decode cX12_carryAll 131 = .ok (.invokevirtual 150, 3) := by decide +kernel
theorem dX12_carryAll_134 : decode cX12_carryAll 134 = .ok (.iastore, 1) := by decide +kernel
theorem dX12_carryAll_135 : decode cX12_carryAll 135 = .ok (.aload_n 0, 1) := by decide +kernel
theorem dX12_carryAll_136 : decode cX12_carryAll 136 = .ok (.getfield 22, 3) := by decide +kernel
theorem dX12_carryAll_139 : decode cX12_carryAll 139 = .ok (.iload_n 3, 1) := by decide +kernel
theorem dX12_carryAll_140 : decode cX12_carryAll 140 = .ok (.aload_n 0, 1) := by decide +kernel
theorem dX12_carryAll_141 : decode cX12_carryAll 141 = .ok (.aload_n 0, 1) := by decide +kernel
theorem dX12_carryAll_142 : decode cX12_carryAll 142 = .ok (.getfield 22, 3) := by decide +kernel
theorem dX12_carryAll_145 : decode cX12_carryAll 145 = .ok (.iload_n 3, 1) := by decide +kernel
theorem dX12_carryAll_146 : decode cX12_carryAll 146 = .ok (.iaload, 1) := by decide +kernel
theorem dX12_carryAll_147 : decode cX12_carryAll 147 = .ok (.invokevirtual 150, 3) := by decide +kernel
theorem dX12_carryAll_150 : decode cX12_carryAll 150 = .ok (.iastore, 1) := by decide +kernel
theorem dX12_carryAll_151 : decode cX12_carryAll 151 = .ok (.aload_n 0, 1) := by decide +kernel
theorem dX12_carryAll_152 : decode cX12_carryAll 152 = .ok (.getfield 25, 3) := by decide +kernel
theorem dX12_carryAll_155 : decode cX12_carryAll 155 = .ok (.iload_n 3, 1) := by decide +kernel
theorem dX12_carryAll_156 : decode cX12_carryAll 156 = .ok (.aload_n 0, 1) := by decide +kernel
theorem dX12_carryAll_157 : decode cX12_carryAll 157 = .ok (.aload_n 0, 1) := by decide +kernel
theorem dX12_carryAll_158 : decode cX12_carryAll 158 = .ok (.getfield 25, 3) := by decide +kernel
theorem dX12_carryAll_161 : decode cX12_carryAll 161 = .ok (.iload_n 3, 1) := by decide +kernel
theorem dX12_carryAll_162 : decode cX12_carryAll 162 = .ok (.iaload, 1) := by decide +kernel
theorem dX12_carryAll_163 : decode cX12_carryAll 163 = .ok (.invokevirtual 150, 3) := by decide +kernel
theorem dX12_carryAll_166 : decode cX12_carryAll 166 = .ok (.iastore, 1) := by decide +kernel
theorem dX12_carryAll_167 : decode cX12_carryAll 167 = .ok (.aload_n 0, 1) := by decide +kernel
theorem dX12_carryAll_168 : decode cX12_carryAll 168 = .ok (.getfield 28, 3) := by decide +kernel
theorem dX12_carryAll_171 : decode cX12_carryAll 171 = .ok (.iload_n 3, 1) := by decide +kernel
theorem dX12_carryAll_172 : decode cX12_carryAll 172 = .ok (.aload_n 0, 1) := by decide +kernel
theorem dX12_carryAll_173 : decode cX12_carryAll 173 = .ok (.aload_n 0, 1) := by decide +kernel
theorem dX12_carryAll_174 : decode cX12_carryAll 174 = .ok (.getfield 28, 3) := by decide +kernel
theorem dX12_carryAll_177 : decode cX12_carryAll 177 = .ok (.iload_n 3, 1) := by decide +kernel
theorem dX12_carryAll_178 : decode cX12_carryAll 178 = .ok (.iaload, 1) := by decide +kernel
theorem dX12_carryAll_179 : decode cX12_carryAll 179 = .ok (.invokevirtual 150, 3) := by decide +kernel
theorem dX12_carryAll_182 : decode cX12_carryAll 182 = .ok (.iastore, 1) := by decide +kernel
theorem dX12_carryAll_183 : decode cX12_carryAll 183 = .ok (.aload_n 0, 1) := by decide +kernel
theorem dX12_carryAll_184 : decode cX12_carryAll 184 = .ok (.getfield 31, 3) := by decide +kernel
theorem dX12_carryAll_187 : decode cX12_carryAll 187 = .ok (.iload_n 3, 1) := by decide +kernel
theorem dX12_carryAll_188 : decode cX12_carryAll 188 = .ok (.aload_n 0, 1) := by decide +kernel
theorem dX12_carryAll_189 : decode cX12_carryAll 189 = .ok (.aload_n 0, 1) := by decide +kernel
theorem dX12_carryAll_190 : decode cX12_carryAll 190 = .ok (.getfield 31, 3) := by decide +kernel
theorem dX12_carryAll_193 : decode cX12_carryAll 193 = .ok (.iload_n 3, 1) := by decide +kernel
theorem dX12_carryAll_194 : decode cX12_carryAll 194 = .ok (.iaload, 1) := by decide +kernel
theorem dX12_carryAll_195 : decode cX12_carryAll 195 = .ok (.invokevirtual 150, 3) := by decide +kernel
theorem dX12_carryAll_198 : decode cX12_carryAll 198 = .ok (.iastore, 1) := by decide +kernel
theorem dX12_carryAll_199 : decode cX12_carryAll 199 = .ok (.iinc 3 1, 3) := by decide +kernel
theorem dX12_carryAll_202 : decode cX12_carryAll 202 = .ok (.goto (-137), 3) := by decide +kernel
theorem dX12_carryAll_205 : decode cX12_carryAll 205 = .ok (.iconst 0, 1) := by decide +kernel
theorem dX12_carryAll_206 : decode cX12_carryAll 206 = .ok (.istore_n 3, 1) := by decide +kernel
theorem dX12_carryAll_207 : decode cX12_carryAll 207 = .ok (.iload_n 3, 1) := by decide +kernel
theorem dX12_carryAll_208 : decode cX12_carryAll 208 = .ok (.bipush 36, 2) := by decide +kernel
theorem dX12_carryAll_210 : decode cX12_carryAll 210 = .ok (.if_icmp .ge 25, 3) := by decide +kernel
theorem dX12_carryAll_213 : decode cX12_carryAll 213 = .ok (.aload_n 0, 1) := by decide +kernel
theorem dX12_carryAll_214 : decode cX12_carryAll 214 = .ok (.getfield 37, 3) := by decide +kernel
theorem dX12_carryAll_217 : decode cX12_carryAll 217 = .ok (.iload_n 3, 1) := by decide +kernel
theorem dX12_carryAll_218 : decode cX12_carryAll 218 = .ok (.aload_n 0, 1) := by decide +kernel
theorem dX12_carryAll_219 : decode cX12_carryAll 219 = .ok (.aload_n 0, 1) := by decide +kernel
theorem dX12_carryAll_220 : decode cX12_carryAll 220 = .ok (.getfield 37, 3) := by decide +kernel
theorem dX12_carryAll_223 : decode cX12_carryAll 223 = .ok (.iload_n 3, 1) := by decide +kernel
theorem dX12_carryAll_224 : decode cX12_carryAll 224 = .ok (.iaload, 1) := by decide +kernel
theorem dX12_carryAll_225 : decode cX12_carryAll 225 = .ok (.invokevirtual 150, 3) := by decide +kernel
theorem dX12_carryAll_228 : decode cX12_carryAll 228 = .ok (.iastore, 1) := by decide +kernel
theorem dX12_carryAll_229 : decode cX12_carryAll 229 = .ok (.iinc 3 1, 3) := by decide +kernel
theorem dX12_carryAll_232 : decode cX12_carryAll 232 = .ok (.goto (-25), 3) := by decide +kernel
theorem dX12_carryAll_235 : decode cX12_carryAll 235 = .ok (.iconst 0, 1) := by decide +kernel
theorem dX12_carryAll_236 : decode cX12_carryAll 236 = .ok (.istore_n 3, 1) := by decide +kernel
theorem dX12_carryAll_237 : decode cX12_carryAll 237 = .ok (.iload_n 3, 1) := by decide +kernel
theorem dX12_carryAll_238 : decode cX12_carryAll 238 = .ok (.bipush 18, 2) := by decide +kernel
theorem dX12_carryAll_240 : decode cX12_carryAll 240 = .ok (.if_icmp .ge 25, 3) := by decide +kernel
theorem dX12_carryAll_243 : decode cX12_carryAll 243 = .ok (.aload_n 0, 1) := by decide +kernel
theorem dX12_carryAll_244 : decode cX12_carryAll 244 = .ok (.getfield 34, 3) := by decide +kernel
theorem dX12_carryAll_247 : decode cX12_carryAll 247 = .ok (.iload_n 3, 1) := by decide +kernel
theorem dX12_carryAll_248 : decode cX12_carryAll 248 = .ok (.aload_n 0, 1) := by decide +kernel
theorem dX12_carryAll_249 : decode cX12_carryAll 249 = .ok (.aload_n 0, 1) := by decide +kernel
theorem dX12_carryAll_250 : decode cX12_carryAll 250 = .ok (.getfield 34, 3) := by decide +kernel
theorem dX12_carryAll_253 : decode cX12_carryAll 253 = .ok (.iload_n 3, 1) := by decide +kernel
theorem dX12_carryAll_254 : decode cX12_carryAll 254 = .ok (.iaload, 1) := by decide +kernel
theorem dX12_carryAll_255 : decode cX12_carryAll 255 = .ok (.invokevirtual 150, 3) := by decide +kernel
theorem dX12_carryAll_258 : decode cX12_carryAll 258 = .ok (.iastore, 1) := by decide +kernel
theorem dX12_carryAll_259 : decode cX12_carryAll 259 = .ok (.iinc 3 1, 3) := by decide +kernel
theorem dX12_carryAll_262 : decode cX12_carryAll 262 = .ok (.goto (-25), 3) := by decide +kernel
theorem dX12_carryAll_265 : decode cX12_carryAll 265 = .ok (.iconst 0, 1) := by decide +kernel
theorem dX12_carryAll_266 : decode cX12_carryAll 266 = .ok (.istore_n 3, 1) := by decide +kernel
theorem dX12_carryAll_267 : decode cX12_carryAll 267 = .ok (.iload_n 3, 1) := by decide +kernel
theorem dX12_carryAll_268 : decode cX12_carryAll 268 = .ok (.iconst 3, 1) := by decide +kernel
theorem dX12_carryAll_269 : decode cX12_carryAll 269 = .ok (.if_icmp .ge 25, 3) := by decide +kernel
theorem dX12_carryAll_272 : decode cX12_carryAll 272 = .ok (.aload_n 0, 1) := by decide +kernel
theorem dX12_carryAll_273 : decode cX12_carryAll 273 = .ok (.getfield 40, 3) := by decide +kernel
theorem dX12_carryAll_276 : decode cX12_carryAll 276 = .ok (.iload_n 3, 1) := by decide +kernel
theorem dX12_carryAll_277 : decode cX12_carryAll 277 = .ok (.aload_n 0, 1) := by decide +kernel
theorem dX12_carryAll_278 : decode cX12_carryAll 278 = .ok (.aload_n 0, 1) := by decide +kernel
theorem dX12_carryAll_279 : decode cX12_carryAll 279 = .ok (.getfield 40, 3) := by decide +kernel
theorem dX12_carryAll_282 : decode cX12_carryAll 282 = .ok (.iload_n 3, 1) := by decide +kernel
theorem dX12_carryAll_283 : decode cX12_carryAll 283 = .ok (.iaload, 1) := by decide +kernel
theorem dX12_carryAll_284 : decode cX12_carryAll 284 = .ok (.invokevirtual 150, 3) := by decide +kernel
theorem dX12_carryAll_287 : decode cX12_carryAll 287 = .ok (.iastore, 1) := by decide +kernel
theorem dX12_carryAll_288 : decode cX12_carryAll 288 = .ok (.iinc 3 1, 3) := by decide +kernel
theorem dX12_carryAll_291 : decode cX12_carryAll 291 = .ok (.goto (-24), 3) := by decide +kernel
theorem dX12_carryAll_294 : decode cX12_carryAll 294 = .ok (.return_, 1) := by decide +kernel
theorem dX12_open_0 : decode cX12_open 0 = .ok (.aload_n 0, 1) := by decide +kernel
theorem dX12_open_1 : decode cX12_open 1 = .ok (.aload_n 0, 1) := by decide +kernel
theorem dX12_open_2 : decode cX12_open 2 = .ok (.getfield 49, 3) := by decide +kernel
theorem dX12_open_5 : decode cX12_open 5 = .ok (.iconst 1, 1) := by decide +kernel
theorem dX12_open_6 : decode cX12_open 6 = .ok (.invokevirtual 156, 3) := by decide +kernel
theorem dX12_open_9 : decode cX12_open 9 = .ok (.iconst 0, 1) := by decide +kernel
theorem dX12_open_10 : decode cX12_open 10 = .ok (.istore_n 1, 1) := by decide +kernel
theorem dX12_open_11 : decode cX12_open 11 = .ok (.iload_n 1, 1) := by decide +kernel
theorem dX12_open_12 : decode cX12_open 12 = .ok (.bipush 6, 2) := by decide +kernel
theorem dX12_open_14 : decode cX12_open 14 = .ok (.if_icmp .ge 16, 3) := by decide +kernel
theorem dX12_open_17 : decode cX12_open 17 = .ok (.aload_n 0, 1) := by decide +kernel
theorem dX12_open_18 : decode cX12_open 18 = .ok (.getfield 46, 3) := by decide +kernel
theorem dX12_open_21 : decode cX12_open 21 = .ok (.iload_n 1, 1) := by decide +kernel
theorem dX12_open_22 : decode cX12_open 22 = .ok (.iconst 0, 1) := by decide +kernel
theorem dX12_open_23 : decode cX12_open 23 = .ok (.iastore, 1) := by decide +kernel
theorem dX12_open_24 : decode cX12_open 24 = .ok (.iinc 1 1, 3) := by decide +kernel
theorem dX12_open_27 : decode cX12_open 27 = .ok (.goto (-16), 3) := by decide +kernel
theorem dX12_open_30 : decode cX12_open 30 = .ok (.return_, 1) := by decide +kernel
theorem dX12_close_0 : decode cX12_close 0 = .ok (.aload_n 0, 1) := by decide +kernel
theorem dX12_close_1 : decode cX12_close 1 = .ok (.aload_n 0, 1) := by decide +kernel
theorem dX12_close_2 : decode cX12_close 2 = .ok (.getfield 49, 3) := by decide +kernel
theorem dX12_close_5 : decode cX12_close 5 = .ok (.iconst 0, 1) := by decide +kernel
theorem dX12_close_6 : decode cX12_close 6 = .ok (.invokevirtual 156, 3) := by decide +kernel
theorem dX12_close_9 : decode cX12_close 9 = .ok (.return_, 1) := by decide +kernel
theorem dX12_image_0 : decode cX12_image 0 = .ok (.aload_n 0, 1) := by decide +kernel
theorem dX12_image_1 : decode cX12_image 1 = .ok (.iconst 0, 1) := by decide +kernel
theorem dX12_image_2 : decode cX12_image 2 = .ok (.putfield 73, 3) := by decide +kernel
theorem dX12_image_5 : decode cX12_image 5 = .ok (.aload_n 0, 1) := by decide +kernel
theorem dX12_image_6 : decode cX12_image 6 = .ok (.iconst 1, 1) := by decide +kernel
theorem dX12_image_7 : decode cX12_image 7 = .ok (.putfield 160, 3) := by decide +kernel
theorem dX12_image_10 : decode cX12_image 10 = .ok (.aload_n 0, 1) := by decide +kernel
theorem dX12_image_11 : decode cX12_image 11 = .ok (.aload_n 0, 1) := by decide +kernel
theorem dX12_image_12 : decode cX12_image 12 = .ok (.getfield 52, 3) := by decide +kernel
theorem dX12_image_15 : decode cX12_image 15 = .ok (.iconst 1, 1) := by decide +kernel
theorem dX12_image_16 : decode cX12_image 16 = .ok (.invokevirtual 156, 3) := by decide +kernel
theorem dX12_image_19 : decode cX12_image 19 = .ok (.aload_n 0, 1) := by decide +kernel
theorem dX12_image_20 : decode cX12_image 20 = .ok (.getfield 122, 3) := by decide +kernel
theorem dX12_image_23 : decode cX12_image 23 = .ok (.ireturn, 1) := by decide +kernel
theorem dX12_restore_0 : decode cX12_restore 0 = .ok (.aload_n 0, 1) := by decide +kernel
theorem dX12_restore_1 : decode cX12_restore 1 = .ok (.iconst 0, 1) := by decide +kernel
theorem dX12_restore_2 : decode cX12_restore 2 = .ok (.putfield 73, 3) := by decide +kernel
theorem dX12_restore_5 : decode cX12_restore 5 = .ok (.aload_n 0, 1) := by decide +kernel
theorem dX12_restore_6 : decode cX12_restore 6 = .ok (.getfield 160, 3) := by decide +kernel
theorem dX12_restore_9 : decode cX12_restore 9 = .ok (.ifCond .ne 10, 3) := by decide +kernel
theorem dX12_restore_12 : decode cX12_restore 12 = .ok (.aload_n 0, 1) := by decide +kernel
theorem dX12_restore_13 : decode cX12_restore 13 = .ok (.bipush (-3), 2) := by decide +kernel
theorem dX12_restore_15 : decode cX12_restore 15 = .ok (.invokevirtual 163, 3) := by decide +kernel
theorem dX12_restore_18 : decode cX12_restore 18 = .ok (.ireturn, 1) := by decide +kernel
theorem dX12_restore_19 : decode cX12_restore 19 = .ok (.aload_n 0, 1) := by decide +kernel
theorem dX12_restore_20 : decode cX12_restore 20 = .ok (.aload_n 0, 1) := by decide +kernel
theorem dX12_restore_21 : decode cX12_restore 21 = .ok (.getfield 52, 3) := by decide +kernel
theorem dX12_restore_24 : decode cX12_restore 24 = .ok (.iconst 0, 1) := by decide +kernel
theorem dX12_restore_25 : decode cX12_restore 25 = .ok (.invokevirtual 156, 3) := by decide +kernel
theorem dX12_restore_28 : decode cX12_restore 28 = .ok (.aload_n 0, 1) := by decide +kernel
theorem dX12_restore_29 : decode cX12_restore 29 = .ok (.getfield 122, 3) := by decide +kernel
theorem dX12_restore_32 : decode cX12_restore 32 = .ok (.ireturn, 1) := by decide +kernel
theorem dX12_feed_0 : decode cX12_feed 0 = .ok (.aload_n 0, 1) := by decide +kernel
theorem dX12_feed_1 : decode cX12_feed 1 = .ok (.iconst 0, 1) := by decide +kernel
theorem dX12_feed_2 : decode cX12_feed 2 = .ok (.putfield 73, 3) := by decide +kernel
theorem dX12_feed_5 : decode cX12_feed 5 = .ok (.iload_n 1, 1) := by decide +kernel
theorem dX12_feed_6 : decode cX12_feed 6 = .ok (.ifCond .ge 10, 3) := by decide +kernel
theorem dX12_feed_9 : decode cX12_feed 9 = .ok (.aload_n 0, 1) := by decide +kernel
theorem dX12_feed_10 : decode cX12_feed 10 = .ok (.bipush (-4), 2) := by decide +kernel
theorem dX12_feed_12 : decode cX12_feed 12 = .ok (.invokevirtual 163, 3) := by decide +kernel
theorem dX12_feed_15 : decode cX12_feed 15 = .ok (.ireturn, 1) := by decide +kernel
theorem dX12_feed_16 : decode cX12_feed 16 = .ok (.iload_n 1, 1) := by decide +kernel
theorem dX12_feed_17 : decode cX12_feed 17 = .ok (.sipush 255, 3) := by decide +kernel
theorem dX12_feed_20 : decode cX12_feed 20 = .ok (.if_icmp .gt 12, 3) := by decide +kernel
theorem dX12_feed_23 : decode cX12_feed 23 = .ok (.aload_n 0, 1) := by decide +kernel
theorem dX12_feed_24 : decode cX12_feed 24 = .ok (.getfield 166, 3) := by decide +kernel
theorem dX12_feed_27 : decode cX12_feed 27 = .ok (.bipush 96, 2) := by decide +kernel
theorem dX12_feed_29 : decode cX12_feed 29 = .ok (.if_icmp .ne 10, 3) := by decide +kernel
theorem dX12_feed_32 : decode cX12_feed 32 = .ok (.aload_n 0, 1) := by decide +kernel
theorem dX12_feed_33 : decode cX12_feed 33 = .ok (.bipush (-6), 2) := by decide +kernel
theorem dX12_feed_35 : decode cX12_feed 35 = .ok (.invokevirtual 163, 3) := by decide +kernel
theorem dX12_feed_38 : decode cX12_feed 38 = .ok (.ireturn, 1) := by decide +kernel
theorem dX12_feed_39 : decode cX12_feed 39 = .ok (.aload_n 0, 1) := by decide +kernel
theorem dX12_feed_40 : decode cX12_feed 40 = .ok (.getfield 55, 3) := by decide +kernel
theorem dX12_feed_43 : decode cX12_feed 43 = .ok (.aload_n 0, 1) := by decide +kernel
theorem dX12_feed_44 : decode cX12_feed 44 = .ok (.getfield 166, 3) := by decide +kernel
theorem dX12_feed_47 : decode cX12_feed 47 = .ok (.iload_n 1, 1) := by decide +kernel
theorem dX12_feed_48 : decode cX12_feed 48 = .ok (.iastore, 1) := by decide +kernel
theorem dX12_feed_49 : decode cX12_feed 49 = .ok (.aload_n 0, 1) := by decide +kernel
theorem dX12_feed_50 : decode cX12_feed 50 = .ok (.dup, 1) := by decide +kernel
theorem dX12_feed_51 : decode cX12_feed 51 = .ok (.getfield 166, 3) := by decide +kernel
theorem dX12_feed_54 : decode cX12_feed 54 = .ok (.iconst 1, 1) := by decide +kernel
theorem dX12_feed_55 : decode cX12_feed 55 = .ok (.iadd, 1) := by decide +kernel
theorem dX12_feed_56 : decode cX12_feed 56 = .ok (.putfield 166, 3) := by decide +kernel
theorem dX12_feed_59 : decode cX12_feed 59 = .ok (.aload_n 0, 1) := by decide +kernel
theorem dX12_feed_60 : decode cX12_feed 60 = .ok (.getfield 166, 3) := by decide +kernel
theorem dX12_feed_63 : decode cX12_feed 63 = .ok (.ireturn, 1) := by decide +kernel
theorem dX12_here_0 : decode cX12_here 0 = .ok (.aload_n 0, 1) := by decide +kernel
theorem dX12_here_1 : decode cX12_here 1 = .ok (.getfield 169, 3) := by decide +kernel
theorem dX12_here_4 : decode cX12_here 4 = .ok (.aload_n 0, 1) := by decide +kernel
theorem dX12_here_5 : decode cX12_here 5 = .ok (.getfield 166, 3) := by decide +kernel
theorem dX12_here_8 : decode cX12_here 8 = .ok (.if_icmp .ge 15, 3) := by decide +kernel
theorem dX12_here_11 : decode cX12_here 11 = .ok (.aload_n 0, 1) := by decide +kernel
theorem dX12_here_12 : decode cX12_here 12 = .ok (.getfield 55, 3) := by decide +kernel
theorem dX12_here_15 : decode cX12_here 15 = .ok (.aload_n 0, 1) := by decide +kernel
theorem dX12_here_16 : decode cX12_here 16 = .ok (.getfield 169, 3) := by decide +kernel
theorem dX12_here_19 : decode cX12_here 19 = .ok (.iaload, 1) := by decide +kernel
theorem dX12_here_20 : decode cX12_here 20 = .ok (.goto 4, 3) := by decide +kernel
theorem dX12_here_23 : decode cX12_here 23 = .ok (.iconst (-1), 1) := by decide +kernel
theorem dX12_here_24 : decode cX12_here 24 = .ok (.ireturn, 1) := by decide +kernel
theorem dX12_readDigit_0 : decode cX12_readDigit 0 = .ok (.aload_n 0, 1) := by decide +kernel
theorem dX12_readDigit_1 : decode cX12_readDigit 1 = .ok (.aload_n 0, 1) := by decide +kernel
theorem dX12_readDigit_2 : decode cX12_readDigit 2 = .ok (.getfield 172, 3) := by decide +kernel
theorem dX12_readDigit_5 : decode cX12_readDigit 5 = .ok (.ifCond .ne 20, 3) := by decide +kernel
theorem dX12_readDigit_8 : decode cX12_readDigit 8 = .ok (.aload_n 0, 1) := by decide +kernel
theorem dX12_readDigit_9 : decode cX12_readDigit 9 = .ok (.invokevirtual 175, 3) := by decide +kernel
theorem dX12_readDigit_12 : decode cX12_readDigit 12 = .ok (.i2l, 1) := by decide +kernel
theorem dX12_readDigit_13 : decode cX12_readDigit 13 = .ok (.ldc2_w 179, 3) := by decide +kernel
theorem dX12_readDigit_16 : decode cX12_readDigit 16 = .ok (.ldc2_w 181, 3) := by decide +kernel
theorem dX12_readDigit_19 : decode cX12_readDigit 19 = .ok (.invokestatic 80, 3) := by decide +kernel
theorem dX12_readDigit_22 : decode cX12_readDigit 22 = .ok (.ifCond .ne 7, 3) := by decide +kernel
theorem dX12_readDigit_25 : decode cX12_readDigit 25 = .ok (.iconst 1, 1) := by decide +kernel
theorem dX12_readDigit_26 : decode cX12_readDigit 26 = .ok (.goto 4, 3) := by decide +kernel
theorem dX12_readDigit_29 : decode cX12_readDigit 29 = .ok (.iconst 0, 1) := by decide +kernel
theorem dX12_readDigit_30 : decode cX12_readDigit 30 = .ok (.putfield 172, 3) := by decide +kernel
theorem dX12_readDigit_33 : decode cX12_readDigit 33 = .ok (.aload_n 0, 1) := by decide +kernel
theorem dX12_readDigit_34 : decode cX12_readDigit 34 = .ok (.getfield 172, 3) := by decide +kernel
theorem dX12_readDigit_37 : decode cX12_readDigit 37 = .ok (.ifCond .eq 5, 3) := by decide +kernel
theorem dX12_readDigit_40 : decode cX12_readDigit 40 = .ok (.iconst 0, 1) := by decide +kernel
theorem dX12_readDigit_41 : decode cX12_readDigit 41 = .ok (.ireturn, 1) := by decide +kernel
theorem dX12_readDigit_42 : decode cX12_readDigit 42 = .ok (.aload_n 0, 1) := by decide +kernel
theorem dX12_readDigit_43 : decode cX12_readDigit 43 = .ok (.dup, 1) := by decide +kernel
theorem dX12_readDigit_44 : decode cX12_readDigit 44 = .ok (.getfield 169, 3) := by decide +kernel
theorem dX12_readDigit_47 : decode cX12_readDigit 47 = .ok (.iconst 1, 1) := by decide +kernel
theorem dX12_readDigit_48 : decode cX12_readDigit 48 = .ok (.iadd, 1) := by decide +kernel
theorem dX12_readDigit_49 : decode cX12_readDigit 49 = .ok (.putfield 169, 3) := by decide +kernel
theorem dX12_readDigit_52 : decode cX12_readDigit 52 = .ok (.aload_n 0, 1) := by decide +kernel
theorem dX12_readDigit_53 : decode cX12_readDigit 53 = .ok (.getfield 55, 3) := by decide +kernel
theorem dX12_readDigit_56 : decode cX12_readDigit 56 = .ok (.aload_n 0, 1) := by decide +kernel
theorem dX12_readDigit_57 : decode cX12_readDigit 57 = .ok (.getfield 169, 3) := by decide +kernel
theorem dX12_readDigit_60 : decode cX12_readDigit 60 = .ok (.iconst 1, 1) := by decide +kernel
theorem dX12_readDigit_61 : decode cX12_readDigit 61 = .ok (.isub, 1) := by decide +kernel
theorem dX12_readDigit_62 : decode cX12_readDigit 62 = .ok (.iaload, 1) := by decide +kernel
theorem dX12_readDigit_63 : decode cX12_readDigit 63 = .ok (.bipush 48, 2) := by decide +kernel
theorem dX12_readDigit_65 : decode cX12_readDigit 65 = .ok (.isub, 1) := by decide +kernel
theorem dX12_readDigit_66 : decode cX12_readDigit 66 = .ok (.ireturn, 1) := by decide +kernel
theorem dX12_readNumber_0 : decode cX12_readNumber 0 = .ok (.aload_n 0, 1) := by decide +kernel
theorem dX12_readNumber_1 : decode cX12_readNumber 1 = .ok (.invokevirtual 183, 3) := by decide +kernel
theorem dX12_readNumber_4 : decode cX12_readNumber 4 = .ok (.istore_n 2, 1) := by decide +kernel
theorem dX12_readNumber_5 : decode cX12_readNumber 5 = .ok (.iconst 1, 1) := by decide +kernel
theorem dX12_readNumber_6 : decode cX12_readNumber 6 = .ok (.istore_n 3, 1) := by decide +kernel
theorem dX12_readNumber_7 : decode cX12_readNumber 7 = .ok (.iload_n 3, 1) := by decide +kernel
theorem dX12_readNumber_8 : decode cX12_readNumber 8 = .ok (.iload_n 1, 1) := by decide +kernel
theorem dX12_readNumber_9 : decode cX12_readNumber 9 = .ok (.if_icmp .ge 43, 3) := by decide +kernel
theorem dX12_readNumber_12 : decode cX12_readNumber 12 = .ok (.aload_n 0, 1) := by decide +kernel
theorem dX12_readNumber_13 : decode cX12_readNumber 13 = .ok (.getfield 172, 3) := by decide +kernel
theorem dX12_readNumber_16 : decode cX12_readNumber 16 = .ok (.ifCond .ne 36, 3) := by decide +kernel
theorem dX12_readNumber_19 : decode cX12_readNumber 19 = .ok (.aload_n 0, 1) := by decide +kernel
theorem dX12_readNumber_20 : decode cX12_readNumber 20 = .ok (.invokevirtual 175, 3) := by decide +kernel
theorem dX12_readNumber_23 : decode cX12_readNumber 23 = .ok (.i2l, 1) := by decide +kernel
theorem dX12_readNumber_24 : decode cX12_readNumber 24 = .ok (.ldc2_w 179, 3) := by decide +kernel
theorem dX12_readNumber_27 : decode cX12_readNumber 27 = .ok (.ldc2_w 181, 3) := by decide +kernel
theorem dX12_readNumber_30 : decode cX12_readNumber 30 = .ok (.invokestatic 80, 3) := by decide +kernel
theorem dX12_readNumber_33 : decode cX12_readNumber 33 = .ok (.ifCond .eq 19, 3) := by decide +kernel
theorem dX12_readNumber_36 : decode cX12_readNumber 36 = .ok (.bipush 10, 2) := by decide +kernel
theorem dX12_readNumber_38 : decode cX12_readNumber 38 = .ok (.iload_n 2, 1) := by decide +kernel
theorem dX12_readNumber_39 : decode cX12_readNumber 39 = .ok (.imul, 1) := by decide +kernel
theorem dX12_readNumber_40 : decode cX12_readNumber 40 = .ok (.aload_n 0, 1) := by decide +kernel
theorem dX12_readNumber_41 : decode cX12_readNumber 41 = .ok (.invokevirtual 183, 3) := by decide +kernel
theorem dX12_readNumber_44 : decode cX12_readNumber 44 = .ok (.iadd, 1) := by decide +kernel
theorem dX12_readNumber_45 : decode cX12_readNumber 45 = .ok (.istore_n 2, 1) := by decide +kernel
theorem dX12_readNumber_46 : decode cX12_readNumber 46 = .ok (.iinc 3 1, 3) := by decide +kernel
theorem dX12_readNumber_49 : decode cX12_readNumber 49 = .ok (.goto (-42), 3) := by decide +kernel
theorem dX12_readNumber_52 : decode cX12_readNumber 52 = .ok (.iload_n 2, 1) := by decide +kernel
theorem dX12_readNumber_53 : decode cX12_readNumber 53 = .ok (.ireturn, 1) := by decide +kernel
theorem dX12_readStatement_0 : decode cX12_readStatement 0 = .ok (.aload_n 0, 1) := by decide +kernel
theorem dX12_readStatement_1 : decode cX12_readStatement 1 = .ok (.getfield 186, 3) := by decide +kernel
theorem dX12_readStatement_4 : decode cX12_readStatement 4 = .ok (.istore_n 1, 1) := by decide +kernel
theorem dX12_readStatement_5 : decode cX12_readStatement 5 = .ok (.aload_n 0, 1) := by decide +kernel
theorem dX12_readStatement_6 : decode cX12_readStatement 6 = .ok (.invokevirtual 175, 3) := by decide +kernel
theorem dX12_readStatement_9 : decode cX12_readStatement 9 = .ok (.istore_n 2, 1) := by decide +kernel
theorem dX12_readStatement_10 : decode cX12_readStatement 10 = .ok (.aload_n 0, 1) := by decide +kernel
theorem dX12_readStatement_11 : decode cX12_readStatement 11 = .ok (.getfield 58, 3) := by decide +kernel
theorem dX12_readStatement_14 : decode cX12_readStatement 14 = .ok (.iload_n 1, 1) := by decide +kernel
theorem dX12_readStatement_15 : decode cX12_readStatement 15 = .ok (.aload_n 0, 1) := by decide +kernel
theorem dX12_readStatement_16 : decode cX12_readStatement 16 = .ok (.getfield 169, 3) := by decide +kernel
theorem dX12_readStatement_19 : decode cX12_readStatement 19 = .ok (.iastore, 1) := by decide +kernel
theorem dX12_readStatement_20 : decode cX12_readStatement 20 = .ok (.aload_n 0, 1) := by decide +kernel
theorem dX12_readStatement_21 : decode cX12_readStatement 21 = .ok (.getfield 61, 3) := by decide +kernel
theorem dX12_readStatement_24 : decode cX12_readStatement 24 = .ok (.iload_n 1, 1) := by decide +kernel
theorem dX12_readStatement_25 : decode cX12_readStatement 25 = .ok (.iload_n 2, 1) := by decide +kernel
theorem dX12_readStatement_26 : decode cX12_readStatement 26 = .ok (.iastore, 1) := by decide +kernel
theorem dX12_readStatement_27 : decode cX12_readStatement 27 = .ok (.aload_n 0, 1) := by decide +kernel
theorem dX12_readStatement_28 : decode cX12_readStatement 28 = .ok (.aload_n 0, 1) := by decide +kernel
theorem dX12_readStatement_29 : decode cX12_readStatement 29 = .ok (.getfield 172, 3) := by decide +kernel
theorem dX12_readStatement_32 : decode cX12_readStatement 32 = .ok (.ifCond .ne 27, 3) := by decide +kernel
theorem dX12_readStatement_35 : decode cX12_readStatement 35 = .ok (.iload_n 2, 1) := by decide +kernel
theorem dX12_readStatement_36 : decode cX12_readStatement 36 = .ok (.bipush 104, 2) := by decide +kernel
theorem dX12_readStatement_38 : decode cX12_readStatement 38 = .ok (.if_icmp .eq 25, 3) := by decide +kernel
theorem dX12_readStatement_41 : decode cX12_readStatement 41 = .ok (.iload_n 2, 1) := by decide +kernel
theorem dX12_readStatement_42 : decode cX12_readStatement 42 = .ok (.bipush 112, 2) := by decide +kernel
theorem dX12_readStatement_44 : decode cX12_readStatement 44 = .ok (.if_icmp .eq 19, 3) := by decide +kernel
theorem dX12_readStatement_47 : decode cX12_readStatement 47 = .ok (.iload_n 2, 1) := by decide +kernel
theorem dX12_readStatement_48 : decode cX12_readStatement 48 = .ok (.bipush 108, 2) := by decide +kernel
theorem dX12_readStatement_50 : decode cX12_readStatement 50 = .ok (.if_icmp .eq 13, 3) := by decide +kernel
theorem dX12_readStatement_53 : decode cX12_readStatement 53 = .ok (.iload_n 2, 1) := by decide +kernel
theorem dX12_readStatement_54 : decode cX12_readStatement 54 = .ok (.bipush 100, 2) := by decide +kernel
theorem dX12_readStatement_56 : decode cX12_readStatement 56 = .ok (.if_icmp .eq 7, 3) := by decide +kernel
theorem dX12_readStatement_59 : decode cX12_readStatement 59 = .ok (.iconst 1, 1) := by decide +kernel
theorem dX12_readStatement_60 : decode cX12_readStatement 60 = .ok (.goto 4, 3) := by decide +kernel
theorem dX12_readStatement_63 : decode cX12_readStatement 63 = .ok (.iconst 0, 1) := by decide +kernel
theorem dX12_readStatement_64 : decode cX12_readStatement 64 = .ok (.putfield 172, 3) := by decide +kernel
theorem dX12_readStatement_67 : decode cX12_readStatement 67 = .ok (.aload_n 0, 1) := by decide +kernel
theorem dX12_readStatement_68 : decode cX12_readStatement 68 = .ok (.dup, 1) := by decide +kernel
theorem dX12_readStatement_69 : decode cX12_readStatement 69 = .ok (.getfield 169, 3) := by decide +kernel
theorem dX12_readStatement_72 : decode cX12_readStatement 72 = .ok (.aload_n 0, 1) := by decide +kernel
theorem dX12_readStatement_73 : decode cX12_readStatement 73 = .ok (.getfield 172, 3) := by decide +kernel
theorem dX12_readStatement_76 : decode cX12_readStatement 76 = .ok (.ifCond .eq 7, 3) := by decide +kernel
theorem dX12_readStatement_79 : decode cX12_readStatement 79 = .ok (.iconst 0, 1) := by decide +kernel
theorem dX12_readStatement_80 : decode cX12_readStatement 80 = .ok (.goto 4, 3) := by decide +kernel
theorem dX12_readStatement_83 : decode cX12_readStatement 83 = .ok (.iconst 1, 1) := by decide +kernel
theorem dX12_readStatement_84 : decode cX12_readStatement 84 = .ok (.iadd, 1) := by decide +kernel
theorem dX12_readStatement_85 : decode cX12_readStatement 85 = .ok (.putfield 169, 3) := by decide +kernel
theorem dX12_readStatement_88 : decode cX12_readStatement 88 = .ok (.iload_n 2, 1) := by decide +kernel
theorem dX12_readStatement_89 : decode cX12_readStatement 89 = .ok (.bipush 104, 2) := by decide +kernel
theorem dX12_readStatement_91 : decode cX12_readStatement 91 = .ok (.if_icmp .ne 8, 3) := by decide +kernel
theorem dX12_readStatement_94 : decode cX12_readStatement 94 = .ok (.bipush 8, 2) := by decide +kernel
theorem dX12_readStatement_96 : decode cX12_readStatement 96 = .ok (.goto 14, 3) := by decide +kernel
theorem dX12_readStatement_99 : decode cX12_readStatement 99 = .ok (.iload_n 2, 1) := by decide +kernel
theorem dX12_readStatement_100 : decode cX12_readStatement 100 = .ok (.bipush 108, 2) := by decide +kernel
theorem dX12_readStatement_102 : decode cX12_readStatement 102 = .ok (.if_icmp .ne 7, 3) := by decide +kernel
theorem dX12_readStatement_105 : decode cX12_readStatement 105 = .ok (.iconst 1, 1) := by decide +kernel
theorem dX12_readStatement_106 : decode cX12_readStatement 106 = .ok (.goto 4, 3) := by decide +kernel
theorem dX12_readStatement_109 : decode cX12_readStatement 109 = .ok (.iconst 2, 1) := by decide +kernel
theorem dX12_readStatement_110 : decode cX12_readStatement 110 = .ok (.istore_n 3, 1) := by decide +kernel
theorem dX12_readStatement_111 : decode cX12_readStatement 111 = .ok (.iconst 0, 1) := by decide +kernel
theorem dX12_readStatement_112 : decode cX12_readStatement 112 = .ok (.istore 4, 2) := by decide +kernel
theorem dX12_readStatement_114 : decode cX12_readStatement 114 = .ok (.iload 4, 2) := by decide +kernel
theorem dX12_readStatement_116 : decode cX12_readStatement 116 = .ok (.iload_n 3, 1) := by decide +kernel
theorem dX12_readStatement_117 : decode cX12_readStatement 117 = .ok (.if_icmp .ge 25, 3) := by decide +kernel
theorem dX12_readStatement_120 : decode cX12_readStatement 120 = .ok (.aload_n 0, 1) := by decide +kernel
theorem dX12_readStatement_121 : decode cX12_readStatement 121 = .ok (.getfield 64, 3) := by decide +kernel
theorem dX12_readStatement_124 : decode cX12_readStatement 124 = .ok (.bipush 9, 2) := by decide +kernel
theorem dX12_readStatement_126 : decode cX12_readStatement 126 = .ok (.iload_n 1, 1) := by decide +kernel
theorem dX12_readStatement_127 : decode cX12_readStatement 127 = .ok (.imul, 1) := by decide +kernel
theorem dX12_readStatement_128 : decode cX12_readStatement 128 = .ok (.iload 4, 2) := by decide +kernel
theorem dX12_readStatement_130 : decode cX12_readStatement 130 = .ok (.iadd, 1) := by decide +kernel
theorem dX12_readStatement_131 : decode cX12_readStatement 131 = .ok (.aload_n 0, 1) := by decide +kernel
theorem dX12_readStatement_132 : decode cX12_readStatement 132 = .ok (.invokevirtual 183, 3) := by decide +kernel
theorem dX12_readStatement_135 : decode cX12_readStatement 135 = .ok (.iastore, 1) := by decide +kernel
theorem dX12_readStatement_136 : decode cX12_readStatement 136 = .ok (.iinc 4 1, 3) := by decide +kernel
theorem dX12_readStatement_139 : decode cX12_readStatement 139 = .ok (.goto (-25), 3) := by decide +kernel
theorem dX12_readStatement_142 : decode cX12_readStatement 142 = .ok (.iload_n 2, 1) := by decide +kernel
theorem dX12_readStatement_143 : decode cX12_readStatement 143 = .ok (.bipush 104, 2) := by decide +kernel
theorem dX12_readStatement_145 : decode cX12_readStatement 145 = .ok (.if_icmp .eq 9, 3) := by decide +kernel
theorem dX12_readStatement_148 : decode cX12_readStatement 148 = .ok (.iload_n 2, 1) := by decide +kernel
theorem dX12_readStatement_149 : decode cX12_readStatement 149 = .ok (.bipush 100, 2) := by decide +kernel
theorem dX12_readStatement_151 : decode cX12_readStatement 151 = .ok (.if_icmp .ne 29, 3) := by decide +kernel
theorem dX12_readStatement_154 : decode cX12_readStatement 154 = .ok (.aload_n 0, 1) := by decide +kernel
theorem dX12_readStatement_155 : decode cX12_readStatement 155 = .ok (.getfield 64, 3) := by decide +kernel
theorem dX12_readStatement_158 : decode cX12_readStatement 158 = .ok (.bipush 9, 2) := by decide +kernel
theorem dX12_readStatement_160 : decode cX12_readStatement 160 = .ok (.iload_n 1, 1) := by decide +kernel
theorem dX12_readStatement_161 : decode cX12_readStatement 161 = .ok (.imul, 1) := by decide +kernel
theorem dX12_readStatement_162 : decode cX12_readStatement 162 = .ok (.iload_n 3, 1) := by decide +kernel
theorem dX12_readStatement_163 : decode cX12_readStatement 163 = .ok (.iadd, 1) := by decide +kernel
theorem dX12_readStatement_164 : decode cX12_readStatement 164 = .ok (.aload_n 0, 1) := by decide +kernel
theorem dX12_readStatement_165 : decode cX12_readStatement 165 = .ok (.iload_n 2, 1) := by decide +kernel
theorem dX12_readStatement_166 : decode cX12_readStatement 166 = .ok (.bipush 104, 2) := by decide +kernel
theorem dX12_readStatement_168 : decode cX12_readStatement 168 = .ok (.if_icmp .ne 7, 3) := by decide +kernel
theorem dX12_readStatement_171 : decode cX12_readStatement 171 = .ok (.iconst 3, 1) := by decide +kernel
theorem dX12_readStatement_172 : decode cX12_readStatement 172 = .ok (.goto 4, 3) := by decide +kernel
theorem dX12_readStatement_175 : decode cX12_readStatement 175 = .ok (.iconst 2, 1) := by decide +kernel
theorem dX12_readStatement_176 : decode cX12_readStatement 176 = .ok (.invokevirtual 189, 3) := by decide +kernel
theorem dX12_readStatement_179 : decode cX12_readStatement 179 = .ok (.iastore, 1) := by decide +kernel
theorem dX12_readStatement_180 : decode cX12_readStatement 180 = .ok (.aload_n 0, 1) := by decide +kernel
theorem dX12_readStatement_181 : decode cX12_readStatement 181 = .ok (.aload_n 0, 1) := by decide +kernel
theorem dX12_readStatement_182 : decode cX12_readStatement 182 = .ok (.getfield 172, 3) := by decide +kernel
theorem dX12_readStatement_185 : decode cX12_readStatement 185 = .ok (.ifCond .ne 12, 3) := by decide +kernel
theorem dX12_readStatement_188 : decode cX12_readStatement 188 = .ok (.aload_n 0, 1) := by decide +kernel
theorem dX12_readStatement_189 : decode cX12_readStatement 189 = .ok (.invokevirtual 175, 3) := by decide +kernel
theorem dX12_readStatement_192 : decode cX12_readStatement 192 = .ok (.bipush 59, 2) := by decide +kernel
theorem dX12_readStatement_194 : decode cX12_readStatement 194 = .ok (.if_icmp .eq 7, 3) := by decide +kernel
theorem dX12_readStatement_197 : decode cX12_readStatement 197 = .ok (.iconst 1, 1) := by decide +kernel
theorem dX12_readStatement_198 : decode cX12_readStatement 198 = .ok (.goto 4, 3) := by decide +kernel
theorem dX12_readStatement_201 : decode cX12_readStatement 201 = .ok (.iconst 0, 1) := by decide +kernel
theorem dX12_readStatement_202 : decode cX12_readStatement 202 = .ok (.putfield 172, 3) := by decide +kernel
theorem dX12_readStatement_205 : decode cX12_readStatement 205 = .ok (.aload_n 0, 1) := by decide +kernel
theorem dX12_readStatement_206 : decode cX12_readStatement 206 = .ok (.dup, 1) := by decide +kernel
theorem dX12_readStatement_207 : decode cX12_readStatement 207 = .ok (.getfield 169, 3) := by decide +kernel
theorem dX12_readStatement_210 : decode cX12_readStatement 210 = .ok (.aload_n 0, 1) := by decide +kernel
theorem dX12_readStatement_211 : decode cX12_readStatement 211 = .ok (.getfield 172, 3) := by decide +kernel
theorem dX12_readStatement_214 : decode cX12_readStatement 214 = .ok (.ifCond .eq 7, 3) := by decide +kernel
theorem dX12_readStatement_217 : decode cX12_readStatement 217 = .ok (.iconst 0, 1) := by decide +kernel
theorem dX12_readStatement_218 : decode cX12_readStatement 218 = .ok (.goto 4, 3) := by decide +kernel
theorem dX12_readStatement_221 : decode cX12_readStatement 221 = .ok (.iconst 1, 1) := by decide +kernel
theorem dX12_readStatement_222 : decode cX12_readStatement 222 = .ok (.iadd, 1) := by decide +kernel
theorem dX12_readStatement_223 : decode cX12_readStatement 223 = .ok (.putfield 169, 3) := by decide +kernel
theorem dX12_readStatement_226 : decode cX12_readStatement 226 = .ok (.aload_n 0, 1) := by decide +kernel
theorem dX12_readStatement_227 : decode cX12_readStatement 227 = .ok (.dup, 1) := by decide +kernel
theorem dX12_readStatement_228 : decode cX12_readStatement 228 = .ok (.getfield 186, 3) := by decide +kernel
theorem dX12_readStatement_231 : decode cX12_readStatement 231 = .ok (.iconst 1, 1) := by decide +kernel
theorem dX12_readStatement_232 : decode cX12_readStatement 232 = .ok (.iadd, 1) := by decide +kernel
theorem dX12_readStatement_233 : decode cX12_readStatement 233 = .ok (.putfield 186, 3) := by decide +kernel
theorem dX12_readStatement_236 : decode cX12_readStatement 236 = .ok (.return_, 1) := by decide +kernel
theorem dX12_houseComes_0 : decode cX12_houseComes 0 = .ok (.bipush 9, 2) := by decide +kernel
theorem dX12_houseComes_2 : decode cX12_houseComes 2 = .ok (.iload_n 1, 1) := by decide +kernel
theorem dX12_houseComes_3 : decode cX12_houseComes 3 = .ok (.imul, 1) := by decide +kernel
theorem dX12_houseComes_4 : decode cX12_houseComes 4 = .ok (.istore_n 2, 1) := by decide +kernel
theorem dX12_houseComes_5 : decode cX12_houseComes 5 = .ok (.aload_n 0, 1) := by decide +kernel
theorem dX12_houseComes_6 : decode cX12_houseComes 6 = .ok (.getfield 64, 3) := by decide +kernel
theorem dX12_houseComes_9 : decode cX12_houseComes 9 = .ok (.iload_n 2, 1) := by decide +kernel
theorem dX12_houseComes_10 : decode cX12_houseComes 10 = .ok (.iaload, 1) := by decide +kernel
theorem dX12_houseComes_11 : decode cX12_houseComes 11 = .ok (.iconst 5, 1) := by decide +kernel
theorem dX12_houseComes_12 : decode cX12_houseComes 12 = .ok (.if_icmp .gt 37, 3) := by decide +kernel
theorem dX12_houseComes_15 : decode cX12_houseComes 15 = .ok (.aload_n 0, 1) := by decide +kernel
theorem dX12_houseComes_16 : decode cX12_houseComes 16 = .ok (.getfield 64, 3) := by decide +kernel
theorem dX12_houseComes_19 : decode cX12_houseComes 19 = .ok (.iload_n 2, 1) := by decide +kernel
theorem dX12_houseComes_20 : decode cX12_houseComes 20 = .ok (.iconst 4, 1) := by decide +kernel
theorem dX12_houseComes_21 : decode cX12_houseComes 21 = .ok (.iadd, 1) := by decide +kernel
theorem dX12_houseComes_22 : decode cX12_houseComes 22 = .ok (.iaload, 1) := by decide +kernel
theorem dX12_houseComes_23 : decode cX12_houseComes 23 = .ok (.iconst 2, 1) := by decide +kernel
theorem dX12_houseComes_24 : decode cX12_houseComes 24 = .ok (.if_icmp .gt 25, 3) := by decide +kernel
theorem dX12_houseComes_27 : decode cX12_houseComes 27 = .ok (.aload_n 0, 1) := by decide +kernel
theorem dX12_houseComes_28 : decode cX12_houseComes 28 = .ok (.getfield 64, 3) := by decide +kernel
theorem dX12_houseComes_31 : decode cX12_houseComes 31 = .ok (.iload_n 2, 1) := by decide +kernel
theorem dX12_houseComes_32 : decode cX12_houseComes 32 = .ok (.bipush 6, 2) := by decide +kernel
theorem dX12_houseComes_34 : decode cX12_houseComes 34 = .ok (.iadd, 1) := by decide +kernel
theorem dX12_houseComes_35 : decode cX12_houseComes 35 = .ok (.iaload, 1) := by decide +kernel
theorem dX12_houseComes_36 : decode cX12_houseComes 36 = .ok (.iconst 2, 1) := by decide +kernel
theorem dX12_houseComes_37 : decode cX12_houseComes 37 = .ok (.if_icmp .gt 12, 3) := by decide +kernel
theorem dX12_houseComes_40 : decode cX12_houseComes 40 = .ok (.aload_n 0, 1) := by decide +kernel
theorem dX12_houseComes_41 : decode cX12_houseComes 41 = .ok (.getfield 77, 3) := by decide +kernel
theorem dX12_houseComes_44 : decode cX12_houseComes 44 = .ok (.bipush 6, 2) := by decide +kernel
theorem dX12_houseComes_46 : decode cX12_houseComes 46 = .ok (.if_icmp .ne 5, 3) := by decide +kernel
theorem dX12_houseComes_49 : decode cX12_houseComes 49 = .ok (.iconst 0, 1) := by decide +kernel
theorem dX12_houseComes_50 : decode cX12_houseComes 50 = .ok (.ireturn, 1) := by decide +kernel
theorem dX12_houseComes_51 : decode cX12_houseComes 51 = .ok (.aload_n 0, 1) := by decide +kernel
theorem dX12_houseComes_52 : decode cX12_houseComes 52 = .ok (.getfield 77, 3) := by decide +kernel
theorem dX12_houseComes_55 : decode cX12_houseComes 55 = .ok (.istore_n 3, 1) := by decide +kernel
theorem dX12_houseComes_56 : decode cX12_houseComes 56 = .ok (.aload_n 0, 1) := by decide +kernel
theorem dX12_houseComes_57 : decode cX12_houseComes 57 = .ok (.getfield 7, 3) := by decide +kernel
theorem dX12_houseComes_60 : decode cX12_houseComes 60 = .ok (.iload_n 3, 1) := by decide +kernel
theorem dX12_houseComes_61 : decode cX12_houseComes 61 = .ok (.aload_n 0, 1) := by decide +kernel
theorem dX12_houseComes_62 : decode cX12_houseComes 62 = .ok (.getfield 64, 3) := by decide +kernel
theorem dX12_houseComes_65 : decode cX12_houseComes 65 = .ok (.iload_n 2, 1) := by decide +kernel
theorem dX12_houseComes_66 : decode cX12_houseComes 66 = .ok (.iaload, 1) := by decide +kernel
theorem dX12_houseComes_67 : decode cX12_houseComes 67 = .ok (.iastore, 1) := by decide +kernel
theorem dX12_houseComes_68 : decode cX12_houseComes 68 = .ok (.aload_n 0, 1) := by decide +kernel
theorem dX12_houseComes_69 : decode cX12_houseComes 69 = .ok (.getfield 13, 3) := by decide +kernel
theorem dX12_houseComes_72 : decode cX12_houseComes 72 = .ok (.iload_n 3, 1) := by decide +kernel
theorem dX12_houseComes_73 : decode cX12_houseComes 73 = .ok (.aload_n 0, 1) := by decide +kernel
theorem dX12_houseComes_74 : decode cX12_houseComes 74 = .ok (.getfield 64, 3) := by decide +kernel
theorem dX12_houseComes_77 : decode cX12_houseComes 77 = .ok (.iload_n 2, 1) := by decide +kernel
theorem dX12_houseComes_78 : decode cX12_houseComes 78 = .ok (.iconst 1, 1) := by decide +kernel
theorem dX12_houseComes_79 : decode cX12_houseComes 79 = .ok (.iadd, 1) := by decide +kernel
theorem dX12_houseComes_80 : decode cX12_houseComes 80 = .ok (.iaload, 1) := by decide +kernel
theorem dX12_houseComes_81 : decode cX12_houseComes 81 = .ok (.iastore, 1) := by decide +kernel
theorem dX12_houseComes_82 : decode cX12_houseComes 82 = .ok (.aload_n 0, 1) := by decide +kernel
theorem dX12_houseComes_83 : decode cX12_houseComes 83 = .ok (.getfield 16, 3) := by decide +kernel
theorem dX12_houseComes_86 : decode cX12_houseComes 86 = .ok (.iload_n 3, 1) := by decide +kernel
theorem dX12_houseComes_87 : decode cX12_houseComes 87 = .ok (.bipush 10, 2) := by decide +kernel
theorem dX12_houseComes_89 : decode cX12_houseComes 89 = .ok (.aload_n 0, 1) := by decide +kernel
theorem dX12_houseComes_90 : decode cX12_houseComes 90 = .ok (.getfield 64, 3) := by decide +kernel
theorem dX12_houseComes_93 : decode cX12_houseComes 93 = .ok (.iload_n 2, 1) := by decide +kernel
theorem dX12_houseComes_94 : decode cX12_houseComes 94 = .ok (.iconst 2, 1) := by decide +kernel
theorem dX12_houseComes_95 : decode cX12_houseComes 95 = .ok (.iadd, 1) := by decide +kernel
theorem dX12_houseComes_96 : decode cX12_houseComes 96 = .ok (.iaload, 1) := by decide +kernel
theorem dX12_houseComes_97 : decode cX12_houseComes 97 = .ok (.imul, 1) := by decide +kernel
theorem dX12_houseComes_98 : decode cX12_houseComes 98 = .ok (.aload_n 0, 1) := by decide +kernel
theorem dX12_houseComes_99 : decode cX12_houseComes 99 = .ok (.getfield 64, 3) := by decide +kernel
theorem dX12_houseComes_102 : decode cX12_houseComes 102 = .ok (.iload_n 2, 1) := by decide +kernel
theorem dX12_houseComes_103 : decode cX12_houseComes 103 = .ok (.iconst 3, 1) := by decide +kernel
theorem dX12_houseComes_104 : decode cX12_houseComes 104 = .ok (.iadd, 1) := by decide +kernel
theorem dX12_houseComes_105 : decode cX12_houseComes 105 = .ok (.iaload, 1) := by decide +kernel
theorem dX12_houseComes_106 : decode cX12_houseComes 106 = .ok (.iadd, 1) := by decide +kernel
theorem dX12_houseComes_107 : decode cX12_houseComes 107 = .ok (.iastore, 1) := by decide +kernel
theorem dX12_houseComes_108 : decode cX12_houseComes 108 = .ok (.aload_n 0, 1) := by decide +kernel
theorem dX12_houseComes_109 : decode cX12_houseComes 109 = .ok (.getfield 19, 3) := by decide +kernel
theorem dX12_houseComes_112 : decode cX12_houseComes 112 = .ok (.iload_n 3, 1) := by decide +kernel
theorem dX12_houseComes_113 : decode cX12_houseComes 113 = .ok (.aload_n 0, 1) := by decide +kernel
theorem dX12_houseComes_114 : decode cX12_houseComes 114 = .ok (.getfield 64, 3) := by decide +kernel
theorem dX12_houseComes_117 : decode cX12_houseComes 117 = .ok (.iload_n 2, 1) := by decide +kernel
theorem dX12_houseComes_118 : decode cX12_houseComes 118 = .ok (.iconst 4, 1) := by decide +kernel
theorem dX12_houseComes_119 : decode cX12_houseComes 119 = .ok (.iadd, 1) := by decide +kernel
theorem dX12_houseComes_120 : decode cX12_houseComes 120 = .ok (.iaload, 1) := by decide +kernel
theorem dX12_houseComes_121 : decode cX12_houseComes 121 = .ok (.iastore, 1) := by decide +kernel
theorem dX12_houseComes_122 : decode cX12_houseComes 122 = .ok (.aload_n 0, 1) := by decide +kernel
theorem dX12_houseComes_123 : decode cX12_houseComes 123 = .ok (.getfield 22, 3) := by decide +kernel
theorem dX12_houseComes_126 : decode cX12_houseComes 126 = .ok (.iload_n 3, 1) := by decide +kernel
theorem dX12_houseComes_127 : decode cX12_houseComes 127 = .ok (.aload_n 0, 1) := by decide +kernel
theorem dX12_houseComes_128 : decode cX12_houseComes 128 = .ok (.getfield 64, 3) := by decide +kernel
theorem dX12_houseComes_131 : decode cX12_houseComes 131 = .ok (.iload_n 2, 1) := by decide +kernel
theorem dX12_houseComes_132 : decode cX12_houseComes 132 = .ok (.iconst 5, 1) := by decide +kernel
theorem dX12_houseComes_133 : decode cX12_houseComes 133 = .ok (.iadd, 1) := by decide +kernel
theorem dX12_houseComes_134 : decode cX12_houseComes 134 = .ok (.iaload, 1) := by decide +kernel
theorem dX12_houseComes_135 : decode cX12_houseComes 135 = .ok (.iastore, 1) := by decide +kernel
theorem dX12_houseComes_136 : decode cX12_houseComes 136 = .ok (.aload_n 0, 1) := by decide +kernel
theorem dX12_houseComes_137 : decode cX12_houseComes 137 = .ok (.getfield 25, 3) := by decide +kernel
theorem dX12_houseComes_140 : decode cX12_houseComes 140 = .ok (.iload_n 3, 1) := by decide +kernel
theorem dX12_houseComes_141 : decode cX12_houseComes 141 = .ok (.aload_n 0, 1) := by decide +kernel
theorem dX12_houseComes_142 : decode cX12_houseComes 142 = .ok (.getfield 64, 3) := by decide +kernel
theorem dX12_houseComes_145 : decode cX12_houseComes 145 = .ok (.iload_n 2, 1) := by decide +kernel
theorem dX12_houseComes_146 : decode cX12_houseComes 146 = .ok (.bipush 6, 2) := by decide +kernel
theorem dX12_houseComes_148 : decode cX12_houseComes 148 = .ok (.iadd, 1) := by decide +kernel
theorem dX12_houseComes_149 : decode cX12_houseComes 149 = .ok (.iaload, 1) := by decide +kernel
theorem dX12_houseComes_150 : decode cX12_houseComes 150 = .ok (.iastore, 1) := by decide +kernel
theorem dX12_houseComes_151 : decode cX12_houseComes 151 = .ok (.aload_n 0, 1) := by decide +kernel
theorem dX12_houseComes_152 : decode cX12_houseComes 152 = .ok (.getfield 28, 3) := by decide +kernel
theorem dX12_houseComes_155 : decode cX12_houseComes 155 = .ok (.iload_n 3, 1) := by decide +kernel
theorem dX12_houseComes_156 : decode cX12_houseComes 156 = .ok (.aload_n 0, 1) := by decide +kernel
theorem dX12_houseComes_157 : decode cX12_houseComes 157 = .ok (.getfield 64, 3) := by decide +kernel
theorem dX12_houseComes_160 : decode cX12_houseComes 160 = .ok (.iload_n 2, 1) := by decide +kernel
theorem dX12_houseComes_161 : decode cX12_houseComes 161 = .ok (.bipush 7, 2) := by decide +kernel
theorem dX12_houseComes_163 : decode cX12_houseComes 163 = .ok (.iadd, 1) := by decide +kernel
theorem dX12_houseComes_164 : decode cX12_houseComes 164 = .ok (.iaload, 1) := by decide +kernel
theorem dX12_houseComes_165 : decode cX12_houseComes 165 = .ok (.iastore, 1) := by decide +kernel
theorem dX12_houseComes_166 : decode cX12_houseComes 166 = .ok (.aload_n 0, 1) := by decide +kernel
theorem dX12_houseComes_167 : decode cX12_houseComes 167 = .ok (.getfield 31, 3) := by decide +kernel
theorem dX12_houseComes_170 : decode cX12_houseComes 170 = .ok (.iload_n 3, 1) := by decide +kernel
theorem dX12_houseComes_171 : decode cX12_houseComes 171 = .ok (.aload_n 0, 1) := by decide +kernel
theorem dX12_houseComes_172 : decode cX12_houseComes 172 = .ok (.getfield 64, 3) := by decide +kernel
theorem dX12_houseComes_175 : decode cX12_houseComes 175 = .ok (.iload_n 2, 1) := by decide +kernel
theorem dX12_houseComes_176 : decode cX12_houseComes 176 = .ok (.bipush 8, 2) := by decide +kernel
theorem dX12_houseComes_178 : decode cX12_houseComes 178 = .ok (.iadd, 1) := by decide +kernel
theorem dX12_houseComes_179 : decode cX12_houseComes 179 = .ok (.iaload, 1) := by decide +kernel
theorem dX12_houseComes_180 : decode cX12_houseComes 180 = .ok (.iastore, 1) := by decide +kernel
theorem dX12_houseComes_181 : decode cX12_houseComes 181 = .ok (.iconst 0, 1) := by decide +kernel
theorem dX12_houseComes_182 : decode cX12_houseComes 182 = .ok (.istore 4, 2) := by decide +kernel
theorem dX12_houseComes_184 : decode cX12_houseComes 184 = .ok (.iload 4, 2) := by decide +kernel
theorem dX12_houseComes_186 : decode cX12_houseComes 186 = .ok (.iconst 3, 1) := by decide +kernel
theorem dX12_houseComes_187 : decode cX12_houseComes 187 = .ok (.if_icmp .ge 21, 3) := by decide +kernel
theorem dX12_houseComes_190 : decode cX12_houseComes 190 = .ok (.aload_n 0, 1) := by decide +kernel
theorem dX12_houseComes_191 : decode cX12_houseComes 191 = .ok (.getfield 34, 3) := by decide +kernel
theorem dX12_houseComes_194 : decode cX12_houseComes 194 = .ok (.iconst 3, 1) := by decide +kernel
theorem dX12_houseComes_195 : decode cX12_houseComes 195 = .ok (.iload_n 3, 1) := by decide +kernel
theorem dX12_houseComes_196 : decode cX12_houseComes 196 = .ok (.imul, 1) := by decide +kernel
theorem dX12_houseComes_197 : decode cX12_houseComes 197 = .ok (.iload 4, 2) := by decide +kernel
theorem dX12_houseComes_199 : decode cX12_houseComes 199 = .ok (.iadd, 1) := by decide +kernel
theorem dX12_houseComes_200 : decode cX12_houseComes 200 = .ok (.iconst 0, 1) := by decide +kernel
theorem dX12_houseComes_201 : decode cX12_houseComes 201 = .ok (.iastore, 1) := by decide +kernel
theorem dX12_houseComes_202 : decode cX12_houseComes 202 = .ok (.iinc 4 1, 3) := by decide +kernel
theorem dX12_houseComes_205 : decode cX12_houseComes 205 = .ok (.goto (-21), 3) := by decide +kernel
theorem dX12_houseComes_208 : decode cX12_houseComes 208 = .ok (.iconst 0, 1) := by decide +kernel
theorem dX12_houseComes_209 : decode cX12_houseComes 209 = .ok (.istore 4, 2) := by decide +kernel
theorem dX12_houseComes_211 : decode cX12_houseComes 211 = .ok (.iload 4, 2) := by decide +kernel
theorem dX12_houseComes_213 : decode cX12_houseComes 213 = .ok (.bipush 6, 2) := by decide +kernel
theorem dX12_houseComes_215 : decode cX12_houseComes 215 = .ok (.if_icmp .ge 35, 3) := by decide +kernel
theorem dX12_houseComes_218 : decode cX12_houseComes 218 = .ok (.aload_n 0, 1) := by decide +kernel
theorem dX12_houseComes_219 : decode cX12_houseComes 219 = .ok (.getfield 37, 3) := by decide +kernel
theorem dX12_houseComes_222 : decode cX12_houseComes 222 = .ok (.bipush 6, 2) := by decide +kernel
theorem dX12_houseComes_224 : decode cX12_houseComes 224 = .ok (.iload_n 3, 1) := by decide +kernel
theorem dX12_houseComes_225 : decode cX12_houseComes 225 = .ok (.imul, 1) := by decide +kernel
theorem dX12_houseComes_226 : decode cX12_houseComes 226 = .ok (.iload 4, 2) := by decide +kernel
theorem dX12_houseComes_228 : decode cX12_houseComes 228 = .ok (.iadd, 1) := by decide +kernel
theorem dX12_houseComes_229 : decode cX12_houseComes 229 = .ok (.iconst 0, 1) := by decide +kernel
theorem dX12_houseComes_230 : decode cX12_houseComes 230 = .ok (.iastore, 1) := by decide +kernel
theorem dX12_houseComes_231 : decode cX12_houseComes 231 = .ok (.aload_n 0, 1) := by decide +kernel
theorem dX12_houseComes_232 : decode cX12_houseComes 232 = .ok (.getfield 37, 3) := by decide +kernel
theorem dX12_houseComes_235 : decode cX12_houseComes 235 = .ok (.bipush 6, 2) := by decide +kernel
theorem dX12_houseComes_237 : decode cX12_houseComes 237 = .ok (.iload 4, 2) := by decide +kernel
theorem dX12_houseComes_239 : decode cX12_houseComes 239 = .ok (.imul, 1) := by decide +kernel
theorem dX12_houseComes_240 : decode cX12_houseComes 240 = .ok (.iload_n 3, 1) := by decide +kernel
theorem dX12_houseComes_241 : decode cX12_houseComes 241 = .ok (.iadd, 1) := by decide +kernel
theorem dX12_houseComes_242 : decode cX12_houseComes 242 = .ok (.iconst 0, 1) := by decide +kernel
theorem dX12_houseComes_243 : decode cX12_houseComes 243 = .ok (.iastore, 1) := by decide +kernel
theorem dX12_houseComes_244 : decode cX12_houseComes 244 = .ok (.iinc 4 1, 3) := by decide +kernel
theorem dX12_houseComes_247 : decode cX12_houseComes 247 = .ok (.goto (-36), 3) := by decide +kernel
theorem dX12_houseComes_250 : decode cX12_houseComes 250 = .ok (.aload_n 0, 1) := by decide +kernel
theorem dX12_houseComes_251 : decode cX12_houseComes 251 = .ok (.dup, 1) := by decide +kernel
theorem dX12_houseComes_252 : decode cX12_houseComes 252 = .ok (.getfield 77, 3) := by decide +kernel
theorem dX12_houseComes_255 : decode cX12_houseComes 255 = .ok (.iconst 1, 1) := by decide +kernel
theorem dX12_houseComes_256 : decode cX12_houseComes 256 = .ok (.iadd, 1) := by decide +kernel
theorem dX12_houseComes_257 : decode cX12_houseComes 257 = .ok (.putfield 77, 3) := by decide +kernel
theorem dX12_houseComes_260 : decode cX12_houseComes 260 = .ok (.iconst 1, 1) := by decide +kernel
theorem dX12_houseComes_261 : decode cX12_houseComes 261 = .ok (.ireturn, 1) := by decide +kernel
theorem dX12_comes_0 : decode cX12_comes 0 = .ok (.aload_n 0, 1) := by decide +kernel
theorem dX12_comes_1 : decode cX12_comes 1 = .ok (.getfield 64, 3) := by decide +kernel
theorem dX12_comes_4 : decode cX12_comes 4 = .ok (.bipush 9, 2) := by decide +kernel
theorem dX12_comes_6 : decode cX12_comes 6 = .ok (.iload_n 1, 1) := by decide +kernel
theorem dX12_comes_7 : decode cX12_comes 7 = .ok (.imul, 1) := by decide +kernel
theorem dX12_comes_8 : decode cX12_comes 8 = .ok (.iaload, 1) := by decide +kernel
theorem dX12_comes_9 : decode cX12_comes 9 = .ok (.istore_n 2, 1) := by decide +kernel
theorem dX12_comes_10 : decode cX12_comes 10 = .ok (.aload_n 0, 1) := by decide +kernel
theorem dX12_comes_11 : decode cX12_comes 11 = .ok (.getfield 64, 3) := by decide +kernel
theorem dX12_comes_14 : decode cX12_comes 14 = .ok (.bipush 9, 2) := by decide +kernel
theorem dX12_comes_16 : decode cX12_comes 16 = .ok (.iload_n 1, 1) := by decide +kernel
theorem dX12_comes_17 : decode cX12_comes 17 = .ok (.imul, 1) := by decide +kernel
theorem dX12_comes_18 : decode cX12_comes 18 = .ok (.iconst 1, 1) := by decide +kernel
theorem dX12_comes_19 : decode cX12_comes 19 = .ok (.iadd, 1) := by decide +kernel
theorem dX12_comes_20 : decode cX12_comes 20 = .ok (.iaload, 1) := by decide +kernel
theorem dX12_comes_21 : decode cX12_comes 21 = .ok (.istore_n 3, 1) := by decide +kernel
theorem dX12_comes_22 : decode cX12_comes 22 = .ok (.aload_n 0, 1) := by decide +kernel
theorem dX12_comes_23 : decode cX12_comes 23 = .ok (.getfield 61, 3) := by decide +kernel
theorem dX12_comes_26 : decode cX12_comes 26 = .ok (.iload_n 1, 1) := by decide +kernel
theorem dX12_comes_27 : decode cX12_comes 27 = .ok (.iaload, 1) := by decide +kernel
theorem dX12_comes_28 : decode cX12_comes 28 = .ok (.bipush 104, 2) := by decide +kernel
theorem dX12_comes_30 : decode cX12_comes 30 = .ok (.if_icmp .ne 9, 3) := by decide +kernel
theorem dX12_comes_33 : decode cX12_comes 33 = .ok (.aload_n 0, 1) := by decide +kernel
theorem dX12_comes_34 : decode cX12_comes 34 = .ok (.iload_n 1, 1) := by decide +kernel
theorem dX12_comes_35 : decode cX12_comes 35 = .ok (.invokevirtual 192, 3) := by decide +kernel
theorem dX12_comes_38 : decode cX12_comes 38 = .ok (.ireturn, 1) := by decide +kernel
theorem dX12_comes_39 : decode cX12_comes 39 = .ok (.aload_n 0, 1) := by decide +kernel
theorem dX12_comes_40 : decode cX12_comes 40 = .ok (.getfield 61, 3) := by decide +kernel
theorem dX12_comes_43 : decode cX12_comes 43 = .ok (.iload_n 1, 1) := by decide +kernel
theorem dX12_comes_44 : decode cX12_comes 44 = .ok (.iaload, 1) := by decide +kernel
theorem dX12_comes_45 : decode cX12_comes 45 = .ok (.bipush 112, 2) := by decide +kernel
theorem dX12_comes_47 : decode cX12_comes 47 = .ok (.if_icmp .ne 52, 3) := by decide +kernel
theorem dX12_comes_50 : decode cX12_comes 50 = .ok (.iload_n 2, 1) := by decide +kernel
theorem dX12_comes_51 : decode cX12_comes 51 = .ok (.iconst 3, 1) := by decide +kernel
theorem dX12_comes_52 : decode cX12_comes 52 = .ok (.if_icmp .ge 11, 3) := by decide +kernel
theorem dX12_comes_55 : decode cX12_comes 55 = .ok (.iload_n 3, 1) := by decide +kernel
theorem dX12_comes_56 : decode cX12_comes 56 = .ok (.ifCond .le 7, 3) := by decide +kernel
theorem dX12_comes_59 : decode cX12_comes 59 = .ok (.iconst 1, 1) := by decide +kernel
theorem dX12_comes_60 : decode cX12_comes 60 = .ok (.goto 4, 3) := by decide +kernel
theorem dX12_comes_63 : decode cX12_comes 63 = .ok (.iconst 0, 1) := by decide +kernel
theorem dX12_comes_64 : decode cX12_comes 64 = .ok (.istore 4, 2) := by decide +kernel
theorem dX12_comes_66 : decode cX12_comes 66 = .ok (.aload_n 0, 1) := by decide +kernel
theorem dX12_comes_67 : decode cX12_comes 67 = .ok (.getfield 40, 3) := by decide +kernel
theorem dX12_comes_70 : decode cX12_comes 70 = .ok (.iload 4, 2) := by decide +kernel
theorem dX12_comes_72 : decode cX12_comes 72 = .ok (.ifCond .eq 7, 3) := by decide +kernel
theorem dX12_comes_75 : decode cX12_comes 75 = .ok (.iload_n 2, 1) := by decide +kernel
theorem dX12_comes_76 : decode cX12_comes 76 = .ok (.goto 4, 3) := by decide +kernel
theorem dX12_comes_79 : decode cX12_comes 79 = .ok (.iconst 0, 1) := by decide +kernel
theorem dX12_comes_80 : decode cX12_comes 80 = .ok (.iload 4, 2) := by decide +kernel
theorem dX12_comes_82 : decode cX12_comes 82 = .ok (.ifCond .eq 7, 3) := by decide +kernel
theorem dX12_comes_85 : decode cX12_comes 85 = .ok (.iload_n 3, 1) := by decide +kernel
theorem dX12_comes_86 : decode cX12_comes 86 = .ok (.goto 9, 3) := by decide +kernel
theorem dX12_comes_89 : decode cX12_comes 89 = .ok (.aload_n 0, 1) := by decide +kernel
theorem dX12_comes_90 : decode cX12_comes 90 = .ok (.getfield 40, 3) := by decide +kernel
theorem dX12_comes_93 : decode cX12_comes 93 = .ok (.iconst 0, 1) := by decide +kernel
theorem dX12_comes_94 : decode cX12_comes 94 = .ok (.iaload, 1) := by decide +kernel
theorem dX12_comes_95 : decode cX12_comes 95 = .ok (.iastore, 1) := by decide +kernel
theorem dX12_comes_96 : decode cX12_comes 96 = .ok (.iload 4, 2) := by decide +kernel
theorem dX12_comes_98 : decode cX12_comes 98 = .ok (.ireturn, 1) := by decide +kernel
theorem dX12_comes_99 : decode cX12_comes 99 = .ok (.aload_n 0, 1) := by decide +kernel
theorem dX12_comes_100 : decode cX12_comes 100 = .ok (.getfield 61, 3) := by decide +kernel
theorem dX12_comes_103 : decode cX12_comes 103 = .ok (.iload_n 1, 1) := by decide +kernel
theorem dX12_comes_104 : decode cX12_comes 104 = .ok (.iaload, 1) := by decide +kernel
theorem dX12_comes_105 : decode cX12_comes 105 = .ok (.bipush 108, 2) := by decide +kernel
theorem dX12_comes_107 : decode cX12_comes 107 = .ok (.if_icmp .ne 19, 3) := by decide +kernel
theorem dX12_comes_110 : decode cX12_comes 110 = .ok (.aload_n 0, 1) := by decide +kernel
theorem dX12_comes_111 : decode cX12_comes 111 = .ok (.iload_n 2, 1) := by decide +kernel
theorem dX12_comes_112 : decode cX12_comes 112 = .ok (.putfield 97, 3) := by decide +kernel
theorem dX12_comes_115 : decode cX12_comes 115 = .ok (.iload_n 2, 1) := by decide +kernel
theorem dX12_comes_116 : decode cX12_comes 116 = .ok (.iconst 3, 1) := by decide +kernel
theorem dX12_comes_117 : decode cX12_comes 117 = .ok (.if_icmp .ge 7, 3) := by decide +kernel
theorem dX12_comes_120 : decode cX12_comes 120 = .ok (.iconst 1, 1) := by decide +kernel
theorem dX12_comes_121 : decode cX12_comes 121 = .ok (.goto 4, 3) := by decide +kernel
theorem dX12_comes_124 : decode cX12_comes 124 = .ok (.iconst 0, 1) := by decide +kernel
theorem dX12_comes_125 : decode cX12_comes 125 = .ok (.ireturn, 1) := by decide +kernel
theorem dX12_comes_126 : decode cX12_comes 126 = .ok (.aload_n 0, 1) := by decide +kernel
theorem dX12_comes_127 : decode cX12_comes 127 = .ok (.iload_n 2, 1) := by decide +kernel
theorem dX12_comes_128 : decode cX12_comes 128 = .ok (.iload_n 3, 1) := by decide +kernel
theorem dX12_comes_129 : decode cX12_comes 129 = .ok (.invokevirtual 195, 3) := by decide +kernel
theorem dX12_comes_132 : decode cX12_comes 132 = .ok (.istore 4, 2) := by decide +kernel
theorem dX12_comes_134 : decode cX12_comes 134 = .ok (.iload 4, 2) := by decide +kernel
theorem dX12_comes_136 : decode cX12_comes 136 = .ok (.ifCond .eq 25, 3) := by decide +kernel
theorem dX12_comes_139 : decode cX12_comes 139 = .ok (.aload_n 0, 1) := by decide +kernel
theorem dX12_comes_140 : decode cX12_comes 140 = .ok (.getfield 37, 3) := by decide +kernel
theorem dX12_comes_143 : decode cX12_comes 143 = .ok (.bipush 6, 2) := by decide +kernel
theorem dX12_comes_145 : decode cX12_comes 145 = .ok (.iload_n 2, 1) := by decide +kernel
theorem dX12_comes_146 : decode cX12_comes 146 = .ok (.imul, 1) := by decide +kernel
theorem dX12_comes_147 : decode cX12_comes 147 = .ok (.iload_n 3, 1) := by decide +kernel
theorem dX12_comes_148 : decode cX12_comes 148 = .ok (.iadd, 1) := by decide +kernel
theorem dX12_comes_149 : decode cX12_comes 149 = .ok (.aload_n 0, 1) := by decide +kernel
theorem dX12_comes_150 : decode cX12_comes 150 = .ok (.getfield 64, 3) := by decide +kernel
theorem dX12_comes_153 : decode cX12_comes 153 = .ok (.bipush 9, 2) := by decide +kernel
theorem dX12_comes_155 : decode cX12_comes 155 = .ok (.iload_n 1, 1) := by decide +kernel
theorem dX12_comes_156 : decode cX12_comes 156 = .ok (.imul, 1) := by decide +kernel
theorem dX12_comes_157 : decode cX12_comes 157 = .ok (.iconst 2, 1) := by decide +kernel
theorem dX12_comes_158 : decode cX12_comes 158 = .ok (.iadd, 1) := by decide +kernel
theorem dX12_comes_159 : decode cX12_comes 159 = .ok (.iaload, 1) := by decide +kernel
theorem dX12_comes_160 : decode cX12_comes 160 = .ok (.iastore, 1) := by decide +kernel
theorem dX12_comes_161 : decode cX12_comes 161 = .ok (.iload 4, 2) := by decide +kernel
theorem dX12_comes_163 : decode cX12_comes 163 = .ok (.ireturn, 1) := by decide +kernel
theorem dX12_mountain_0 : decode cX12_mountain 0 = .ok (.aload_n 0, 1) := by decide +kernel
theorem dX12_mountain_1 : decode cX12_mountain 1 = .ok (.iconst 0, 1) := by decide +kernel
theorem dX12_mountain_2 : decode cX12_mountain 2 = .ok (.putfield 73, 3) := by decide +kernel
theorem dX12_mountain_5 : decode cX12_mountain 5 = .ok (.aload_n 0, 1) := by decide +kernel
theorem dX12_mountain_6 : decode cX12_mountain 6 = .ok (.iconst 0, 1) := by decide +kernel
theorem dX12_mountain_7 : decode cX12_mountain 7 = .ok (.putfield 169, 3) := by decide +kernel
theorem dX12_mountain_10 : decode cX12_mountain 10 = .ok (.aload_n 0, 1) := by decide +kernel
theorem dX12_mountain_11 : decode cX12_mountain 11 = .ok (.iconst 0, 1) := by decide +kernel
theorem dX12_mountain_12 : decode cX12_mountain 12 = .ok (.putfield 172, 3) := by decide +kernel
theorem dX12_mountain_15 : decode cX12_mountain 15 = .ok (.aload_n 0, 1) := by decide +kernel
theorem dX12_mountain_16 : decode cX12_mountain 16 = .ok (.iconst 0, 1) := by decide +kernel
theorem dX12_mountain_17 : decode cX12_mountain 17 = .ok (.putfield 186, 3) := by decide +kernel
theorem dX12_mountain_20 : decode cX12_mountain 20 = .ok (.aload_n 0, 1) := by decide +kernel
theorem dX12_mountain_21 : decode cX12_mountain 21 = .ok (.getfield 172, 3) := by decide +kernel
theorem dX12_mountain_24 : decode cX12_mountain 24 = .ok (.ifCond .ne 28, 3) := by decide +kernel
theorem dX12_mountain_27 : decode cX12_mountain 27 = .ok (.aload_n 0, 1) := by decide +kernel
theorem dX12_mountain_28 : decode cX12_mountain 28 = .ok (.getfield 186, 3) := by decide +kernel
theorem dX12_mountain_31 : decode cX12_mountain 31 = .ok (.ifCond .eq 14, 3) := by decide +kernel
theorem dX12_mountain_34 : decode cX12_mountain 34 = .ok (.aload_n 0, 1) := by decide +kernel
theorem dX12_mountain_35 : decode cX12_mountain 35 = .ok (.getfield 169, 3) := by decide +kernel
theorem dX12_mountain_38 : decode cX12_mountain 38 = .ok (.aload_n 0, 1) := by decide +kernel
theorem dX12_mountain_39 : decode cX12_mountain 39 = .ok (.getfield 166, 3) := by decide +kernel
theorem dX12_mountain_42 : decode cX12_mountain 42 = .ok (.if_icmp .ge 10, 3) := by decide +kernel
theorem dX12_mountain_45 : decode cX12_mountain 45 = .ok (.aload_n 0, 1) := by decide +kernel
theorem dX12_mountain_46 : decode cX12_mountain 46 = .ok (.invokevirtual 198, 3) := by decide +kernel
theorem dX12_mountain_49 : decode cX12_mountain 49 = .ok (.goto (-29), 3) := by decide +kernel
theorem dX12_mountain_52 : decode cX12_mountain 52 = .ok (.aload_n 0, 1) := by decide +kernel
theorem dX12_mountain_53 : decode cX12_mountain 53 = .ok (.iconst 0, 1) := by decide +kernel
theorem dX12_mountain_54 : decode cX12_mountain 54 = .ok (.putfield 166, 3) := by decide +kernel
theorem dX12_mountain_57 : decode cX12_mountain 57 = .ok (.aload_n 0, 1) := by decide +kernel
theorem dX12_mountain_58 : decode cX12_mountain 58 = .ok (.getfield 172, 3) := by decide +kernel
theorem dX12_mountain_61 : decode cX12_mountain 61 = .ok (.ifCond .eq 12, 3) := by decide +kernel
theorem dX12_mountain_64 : decode cX12_mountain 64 = .ok (.sipush (-1000), 3) := by decide +kernel
theorem dX12_mountain_67 : decode cX12_mountain 67 = .ok (.aload_n 0, 1) := by decide +kernel
theorem dX12_mountain_68 : decode cX12_mountain 68 = .ok (.getfield 169, 3) := by decide +kernel
theorem dX12_mountain_71 : decode cX12_mountain 71 = .ok (.isub, 1) := by decide +kernel
theorem dX12_mountain_72 : decode cX12_mountain 72 = .ok (.ireturn, 1) := by decide +kernel
theorem dX12_mountain_73 : decode cX12_mountain 73 = .ok (.aload_n 0, 1) := by decide +kernel
theorem dX12_mountain_74 : decode cX12_mountain 74 = .ok (.invokevirtual 201, 3) := by decide +kernel
theorem dX12_mountain_77 : decode cX12_mountain 77 = .ok (.iconst 0, 1) := by decide +kernel
theorem dX12_mountain_78 : decode cX12_mountain 78 = .ok (.istore_n 1, 1) := by decide +kernel
theorem dX12_mountain_79 : decode cX12_mountain 79 = .ok (.iload_n 1, 1) := by decide +kernel
theorem dX12_mountain_80 : decode cX12_mountain 80 = .ok (.aload_n 0, 1) := by decide +kernel
theorem dX12_mountain_81 : decode cX12_mountain 81 = .ok (.getfield 186, 3) := by decide +kernel
theorem dX12_mountain_84 : decode cX12_mountain 84 = .ok (.if_icmp .ge 32, 3) := by decide +kernel
theorem dX12_mountain_87 : decode cX12_mountain 87 = .ok (.aload_n 0, 1) := by decide +kernel
theorem dX12_mountain_88 : decode cX12_mountain 88 = .ok (.iload_n 1, 1) := by decide +kernel
theorem dX12_mountain_89 : decode cX12_mountain 89 = .ok (.invokevirtual 204, 3) := by decide +kernel
theorem dX12_mountain_92 : decode cX12_mountain 92 = .ok (.ifCond .ne 18, 3) := by decide +kernel
theorem dX12_mountain_95 : decode cX12_mountain 95 = .ok (.aload_n 0, 1) := by decide +kernel
theorem dX12_mountain_96 : decode cX12_mountain 96 = .ok (.invokevirtual 207, 3) := by decide +kernel
theorem dX12_mountain_99 : decode cX12_mountain 99 = .ok (.sipush (-2000), 3) := by decide +kernel
theorem dX12_mountain_102 : decode cX12_mountain 102 = .ok (.aload_n 0, 1) := by decide +kernel
theorem dX12_mountain_103 : decode cX12_mountain 103 = .ok (.getfield 58, 3) := by decide +kernel
theorem dX12_mountain_106 : decode cX12_mountain 106 = .ok (.iload_n 1, 1) := by decide +kernel
theorem dX12_mountain_107 : decode cX12_mountain 107 = .ok (.iaload, 1) := by decide +kernel
theorem dX12_mountain_108 : decode cX12_mountain 108 = .ok (.isub, 1) := by decide +kernel
theorem dX12_mountain_109 : decode cX12_mountain 109 = .ok (.ireturn, 1) := by decide +kernel
theorem dX12_mountain_110 : decode cX12_mountain 110 = .ok (.iinc 1 1, 3) := by decide +kernel
theorem dX12_mountain_113 : decode cX12_mountain 113 = .ok (.goto (-34), 3) := by decide +kernel
theorem dX12_mountain_116 : decode cX12_mountain 116 = .ok (.aload_n 0, 1) := by decide +kernel
theorem dX12_mountain_117 : decode cX12_mountain 117 = .ok (.getfield 186, 3) := by decide +kernel
theorem dX12_mountain_120 : decode cX12_mountain 120 = .ok (.ireturn, 1) := by decide +kernel
theorem dX12_house_0 : decode cX12_house 0 = .ok (.aload_n 0, 1) := by decide +kernel
theorem dX12_house_1 : decode cX12_house 1 = .ok (.iconst 0, 1) := by decide +kernel
theorem dX12_house_2 : decode cX12_house 2 = .ok (.putfield 73, 3) := by decide +kernel
theorem dX12_house_5 : decode cX12_house 5 = .ok (.aload_n 0, 1) := by decide +kernel
theorem dX12_house_6 : decode cX12_house 6 = .ok (.iload_n 1, 1) := by decide +kernel
theorem dX12_house_7 : decode cX12_house 7 = .ok (.invokevirtual 84, 3) := by decide +kernel
theorem dX12_house_10 : decode cX12_house 10 = .ok (.ifCond .ne 9, 3) := by decide +kernel
theorem dX12_house_13 : decode cX12_house 13 = .ok (.aload_n 0, 1) := by decide +kernel
theorem dX12_house_14 : decode cX12_house 14 = .ok (.iconst (-1), 1) := by decide +kernel
theorem dX12_house_15 : decode cX12_house 15 = .ok (.invokevirtual 163, 3) := by decide +kernel
theorem dX12_house_18 : decode cX12_house 18 = .ok (.ireturn, 1) := by decide +kernel
theorem dX12_house_19 : decode cX12_house 19 = .ok (.iload_n 2, 1) := by decide +kernel
theorem dX12_house_20 : decode cX12_house 20 = .ok (.tableswitch 124 0 9 #[56, 63, 70, 77, 83, 89, 96, 103, 110, 117], 56) := by decide +kernel
theorem dX12_house_76 : decode cX12_house 76 = .ok (.aload_n 0, 1) := by decide +kernel
theorem dX12_house_77 : decode cX12_house 77 = .ok (.getfield 7, 3) := by decide +kernel
theorem dX12_house_80 : decode cX12_house 80 = .ok (.iload_n 1, 1) := by decide +kernel
theorem dX12_house_81 : decode cX12_house 81 = .ok (.iaload, 1) := by decide +kernel
theorem dX12_house_82 : decode cX12_house 82 = .ok (.ireturn, 1) := by decide +kernel
theorem dX12_house_83 : decode cX12_house 83 = .ok (.aload_n 0, 1) := by decide +kernel
theorem dX12_house_84 : decode cX12_house 84 = .ok (.getfield 13, 3) := by decide +kernel
theorem dX12_house_87 : decode cX12_house 87 = .ok (.iload_n 1, 1) := by decide +kernel
theorem dX12_house_88 : decode cX12_house 88 = .ok (.iaload, 1) := by decide +kernel
theorem dX12_house_89 : decode cX12_house 89 = .ok (.ireturn, 1) := by decide +kernel
theorem dX12_house_90 : decode cX12_house 90 = .ok (.aload_n 0, 1) := by decide +kernel
theorem dX12_house_91 : decode cX12_house 91 = .ok (.getfield 16, 3) := by decide +kernel
theorem dX12_house_94 : decode cX12_house 94 = .ok (.iload_n 1, 1) := by decide +kernel
theorem dX12_house_95 : decode cX12_house 95 = .ok (.iaload, 1) := by decide +kernel
theorem dX12_house_96 : decode cX12_house 96 = .ok (.ireturn, 1) := by decide +kernel
theorem dX12_house_97 : decode cX12_house 97 = .ok (.aload_n 0, 1) := by decide +kernel
theorem dX12_house_98 : decode cX12_house 98 = .ok (.iload_n 1, 1) := by decide +kernel
theorem dX12_house_99 : decode cX12_house 99 = .ok (.invokevirtual 90, 3) := by decide +kernel
theorem dX12_house_102 : decode cX12_house 102 = .ok (.ireturn, 1) := by decide +kernel
theorem dX12_house_103 : decode cX12_house 103 = .ok (.aload_n 0, 1) := by decide +kernel
theorem dX12_house_104 : decode cX12_house 104 = .ok (.iload_n 1, 1) := by decide +kernel
theorem dX12_house_105 : decode cX12_house 105 = .ok (.invokevirtual 94, 3) := by decide +kernel
theorem dX12_house_108 : decode cX12_house 108 = .ok (.ireturn, 1) := by decide +kernel
theorem dX12_house_109 : decode cX12_house 109 = .ok (.aload_n 0, 1) := by decide +kernel
theorem dX12_house_110 : decode cX12_house 110 = .ok (.getfield 19, 3) := by decide +kernel
theorem dX12_house_113 : decode cX12_house 113 = .ok (.iload_n 1, 1) := by decide +kernel
theorem dX12_house_114 : decode cX12_house 114 = .ok (.iaload, 1) := by decide +kernel
theorem dX12_house_115 : decode cX12_house 115 = .ok (.ireturn, 1) := by decide +kernel
theorem dX12_house_116 : decode cX12_house 116 = .ok (.aload_n 0, 1) := by decide +kernel
theorem dX12_house_117 : decode cX12_house 117 = .ok (.getfield 22, 3) := by decide +kernel
theorem dX12_house_120 : decode cX12_house 120 = .ok (.iload_n 1, 1) := by decide +kernel
theorem dX12_house_121 : decode cX12_house 121 = .ok (.iaload, 1) := by decide +kernel
theorem dX12_house_122 : decode cX12_house 122 = .ok (.ireturn, 1) := by decide +kernel
theorem dX12_house_123 : decode cX12_house 123 = .ok (.aload_n 0, 1) := by decide +kernel
theorem dX12_house_124 : decode cX12_house 124 = .ok (.getfield 25, 3) := by decide +kernel
theorem dX12_house_127 : decode cX12_house 127 = .ok (.iload_n 1, 1) := by decide +kernel
theorem dX12_house_128 : decode cX12_house 128 = .ok (.iaload, 1) := by decide +kernel
theorem dX12_house_129 : decode cX12_house 129 = .ok (.ireturn, 1) := by decide +kernel
theorem dX12_house_130 : decode cX12_house 130 = .ok (.aload_n 0, 1) := by decide +kernel
theorem dX12_house_131 : decode cX12_house 131 = .ok (.getfield 28, 3) := by decide +kernel
theorem dX12_house_134 : decode cX12_house 134 = .ok (.iload_n 1, 1) := by decide +kernel
theorem dX12_house_135 : decode cX12_house 135 = .ok (.iaload, 1) := by decide +kernel
theorem dX12_house_136 : decode cX12_house 136 = .ok (.ireturn, 1) := by decide +kernel
theorem dX12_house_137 : decode cX12_house 137 = .ok (.aload_n 0, 1) := by decide +kernel
theorem dX12_house_138 : decode cX12_house 138 = .ok (.getfield 31, 3) := by decide +kernel
theorem dX12_house_141 : decode cX12_house 141 = .ok (.iload_n 1, 1) := by decide +kernel
theorem dX12_house_142 : decode cX12_house 142 = .ok (.iaload, 1) := by decide +kernel
theorem dX12_house_143 : decode cX12_house 143 = .ok (.ireturn, 1) := by decide +kernel
theorem dX12_house_144 : decode cX12_house 144 = .ok (.aload_n 0, 1) := by decide +kernel
theorem dX12_house_145 : decode cX12_house 145 = .ok (.bipush (-2), 2) := by decide +kernel
theorem dX12_house_147 : decode cX12_house 147 = .ok (.invokevirtual 163, 3) := by decide +kernel
theorem dX12_house_150 : decode cX12_house 150 = .ok (.ireturn, 1) := by decide +kernel
theorem dX12_store_0 : decode cX12_store 0 = .ok (.aload_n 0, 1) := by decide +kernel
theorem dX12_store_1 : decode cX12_store 1 = .ok (.iconst 0, 1) := by decide +kernel
theorem dX12_store_2 : decode cX12_store 2 = .ok (.putfield 73, 3) := by decide +kernel
theorem dX12_store_5 : decode cX12_store 5 = .ok (.aload_n 0, 1) := by decide +kernel
theorem dX12_store_6 : decode cX12_store 6 = .ok (.iload_n 1, 1) := by decide +kernel
theorem dX12_store_7 : decode cX12_store 7 = .ok (.invokevirtual 84, 3) := by decide +kernel
theorem dX12_store_10 : decode cX12_store 10 = .ok (.ifCond .eq 23, 3) := by decide +kernel
theorem dX12_store_13 : decode cX12_store 13 = .ok (.iload_n 2, 1) := by decide +kernel
theorem dX12_store_14 : decode cX12_store 14 = .ok (.invokestatic 210, 3) := by decide +kernel
theorem dX12_store_17 : decode cX12_store 17 = .ok (.ifCond .eq 16, 3) := by decide +kernel
theorem dX12_store_20 : decode cX12_store 20 = .ok (.aload_n 0, 1) := by decide +kernel
theorem dX12_store_21 : decode cX12_store 21 = .ok (.getfield 34, 3) := by decide +kernel
theorem dX12_store_24 : decode cX12_store 24 = .ok (.iconst 3, 1) := by decide +kernel
theorem dX12_store_25 : decode cX12_store 25 = .ok (.iload_n 1, 1) := by decide +kernel
theorem dX12_store_26 : decode cX12_store 26 = .ok (.imul, 1) := by decide +kernel
theorem dX12_store_27 : decode cX12_store 27 = .ok (.iload_n 2, 1) := by decide +kernel
theorem dX12_store_28 : decode cX12_store 28 = .ok (.iadd, 1) := by decide +kernel
theorem dX12_store_29 : decode cX12_store 29 = .ok (.iaload, 1) := by decide +kernel
theorem dX12_store_30 : decode cX12_store 30 = .ok (.goto 8, 3) := by decide +kernel
theorem dX12_store_33 : decode cX12_store 33 = .ok (.aload_n 0, 1) := by decide +kernel
theorem dX12_store_34 : decode cX12_store 34 = .ok (.iconst (-1), 1) := by decide +kernel
theorem dX12_store_35 : decode cX12_store 35 = .ok (.invokevirtual 163, 3) := by decide +kernel
theorem dX12_store_38 : decode cX12_store 38 = .ok (.ireturn, 1) := by decide +kernel
theorem dX12_price_0 : decode cX12_price 0 = .ok (.aload_n 0, 1) := by decide +kernel
theorem dX12_price_1 : decode cX12_price 1 = .ok (.iconst 0, 1) := by decide +kernel
theorem dX12_price_2 : decode cX12_price 2 = .ok (.putfield 73, 3) := by decide +kernel
theorem dX12_price_5 : decode cX12_price 5 = .ok (.iload_n 1, 1) := by decide +kernel
theorem dX12_price_6 : decode cX12_price 6 = .ok (.invokestatic 210, 3) := by decide +kernel
theorem dX12_price_9 : decode cX12_price 9 = .ok (.ifCond .ne 7, 3) := by decide +kernel
theorem dX12_price_12 : decode cX12_price 12 = .ok (.iconst (-1), 1) := by decide +kernel
theorem dX12_price_13 : decode cX12_price 13 = .ok (.goto 25, 3) := by decide +kernel
theorem dX12_price_16 : decode cX12_price 16 = .ok (.iload_n 2, 1) := by decide +kernel
theorem dX12_price_17 : decode cX12_price 17 = .ok (.iconst 1, 1) := by decide +kernel
theorem dX12_price_18 : decode cX12_price 18 = .ok (.if_icmp .ge 8, 3) := by decide +kernel
theorem dX12_price_21 : decode cX12_price 21 = .ok (.bipush (-4), 2) := by decide +kernel
theorem dX12_price_23 : decode cX12_price 23 = .ok (.goto 15, 3) := by decide +kernel
theorem dX12_price_26 : decode cX12_price 26 = .ok (.iload_n 2, 1) := by decide +kernel
theorem dX12_price_27 : decode cX12_price 27 = .ok (.bipush 9, 2) := by decide +kernel
theorem dX12_price_29 : decode cX12_price 29 = .ok (.if_icmp .le 8, 3) := by decide +kernel
theorem dX12_price_32 : decode cX12_price 32 = .ok (.bipush (-6), 2) := by decide +kernel
theorem dX12_price_34 : decode cX12_price 34 = .ok (.goto 4, 3) := by decide +kernel
theorem dX12_price_37 : decode cX12_price 37 = .ok (.iconst 0, 1) := by decide +kernel
theorem dX12_price_38 : decode cX12_price 38 = .ok (.istore_n 3, 1) := by decide +kernel
theorem dX12_price_39 : decode cX12_price 39 = .ok (.iload_n 3, 1) := by decide +kernel
theorem dX12_price_40 : decode cX12_price 40 = .ok (.ifCond .ge 9, 3) := by decide +kernel
theorem dX12_price_43 : decode cX12_price 43 = .ok (.aload_n 0, 1) := by decide +kernel
theorem dX12_price_44 : decode cX12_price 44 = .ok (.iload_n 3, 1) := by decide +kernel
theorem dX12_price_45 : decode cX12_price 45 = .ok (.invokevirtual 163, 3) := by decide +kernel
theorem dX12_price_48 : decode cX12_price 48 = .ok (.ireturn, 1) := by decide +kernel
theorem dX12_price_49 : decode cX12_price 49 = .ok (.aload_n 0, 1) := by decide +kernel
theorem dX12_price_50 : decode cX12_price 50 = .ok (.getfield 40, 3) := by decide +kernel
theorem dX12_price_53 : decode cX12_price 53 = .ok (.iload_n 1, 1) := by decide +kernel
theorem dX12_price_54 : decode cX12_price 54 = .ok (.iaload, 1) := by decide +kernel
theorem dX12_price_55 : decode cX12_price 55 = .ok (.istore 4, 2) := by decide +kernel
theorem dX12_price_57 : decode cX12_price 57 = .ok (.aload_n 0, 1) := by decide +kernel
theorem dX12_price_58 : decode cX12_price 58 = .ok (.getfield 40, 3) := by decide +kernel
theorem dX12_price_61 : decode cX12_price 61 = .ok (.iload_n 1, 1) := by decide +kernel
theorem dX12_price_62 : decode cX12_price 62 = .ok (.iload_n 2, 1) := by decide +kernel
theorem dX12_price_63 : decode cX12_price 63 = .ok (.iastore, 1) := by decide +kernel
theorem dX12_price_64 : decode cX12_price 64 = .ok (.iload 4, 2) := by decide +kernel
theorem dX12_price_66 : decode cX12_price 66 = .ok (.ireturn, 1) := by decide +kernel
theorem dX12_law_0 : decode cX12_law 0 = .ok (.aload_n 0, 1) := by decide +kernel
theorem dX12_law_1 : decode cX12_law 1 = .ok (.iconst 0, 1) := by decide +kernel
theorem dX12_law_2 : decode cX12_law 2 = .ok (.putfield 73, 3) := by decide +kernel
theorem dX12_law_5 : decode cX12_law 5 = .ok (.iload_n 1, 1) := by decide +kernel
theorem dX12_law_6 : decode cX12_law 6 = .ok (.i2l, 1) := by decide +kernel
theorem dX12_law_7 : decode cX12_law 7 = .ok (.lconst 0, 1) := by decide +kernel
theorem dX12_law_8 : decode cX12_law 8 = .ok (.ldc2_w 88, 3) := by decide +kernel
theorem dX12_law_11 : decode cX12_law 11 = .ok (.invokestatic 80, 3) := by decide +kernel
theorem dX12_law_14 : decode cX12_law 14 = .ok (.ifCond .ne 10, 3) := by decide +kernel
theorem dX12_law_17 : decode cX12_law 17 = .ok (.aload_n 0, 1) := by decide +kernel
theorem dX12_law_18 : decode cX12_law 18 = .ok (.bipush (-2), 2) := by decide +kernel
theorem dX12_law_20 : decode cX12_law 20 = .ok (.invokevirtual 163, 3) := by decide +kernel
theorem dX12_law_23 : decode cX12_law 23 = .ok (.ireturn, 1) := by decide +kernel
theorem dX12_law_24 : decode cX12_law 24 = .ok (.aload_n 0, 1) := by decide +kernel
theorem dX12_law_25 : decode cX12_law 25 = .ok (.getfield 97, 3) := by decide +kernel
theorem dX12_law_28 : decode cX12_law 28 = .ok (.istore_n 2, 1) := by decide +kernel
theorem dX12_law_29 : decode cX12_law 29 = .ok (.aload_n 0, 1) := by decide +kernel
theorem dX12_law_30 : decode cX12_law 30 = .ok (.iload_n 1, 1) := by decide +kernel
theorem dX12_law_31 : decode cX12_law 31 = .ok (.putfield 97, 3) := by decide +kernel
theorem dX12_law_34 : decode cX12_law 34 = .ok (.iload_n 2, 1) := by decide +kernel
theorem dX12_law_35 : decode cX12_law 35 = .ok (.ireturn, 1) := by decide +kernel
theorem dX12_lawful_0 : decode cX12_lawful 0 = .ok (.aload_n 0, 1) := by decide +kernel
theorem dX12_lawful_1 : decode cX12_lawful 1 = .ok (.iconst 0, 1) := by decide +kernel
theorem dX12_lawful_2 : decode cX12_lawful 2 = .ok (.putfield 73, 3) := by decide +kernel
theorem dX12_lawful_5 : decode cX12_lawful 5 = .ok (.aload_n 0, 1) := by decide +kernel
theorem dX12_lawful_6 : decode cX12_lawful 6 = .ok (.iload_n 1, 1) := by decide +kernel
theorem dX12_lawful_7 : decode cX12_lawful 7 = .ok (.iload_n 2, 1) := by decide +kernel
theorem dX12_lawful_8 : decode cX12_lawful 8 = .ok (.invokevirtual 195, 3) := by decide +kernel
theorem dX12_lawful_11 : decode cX12_lawful 11 = .ok (.ifCond .ne 9, 3) := by decide +kernel
theorem dX12_lawful_14 : decode cX12_lawful 14 = .ok (.aload_n 0, 1) := by decide +kernel
theorem dX12_lawful_15 : decode cX12_lawful 15 = .ok (.iconst (-1), 1) := by decide +kernel
theorem dX12_lawful_16 : decode cX12_lawful 16 = .ok (.invokevirtual 163, 3) := by decide +kernel
theorem dX12_lawful_19 : decode cX12_lawful 19 = .ok (.ireturn, 1) := by decide +kernel
theorem dX12_lawful_20 : decode cX12_lawful 20 = .ok (.aload_n 0, 1) := by decide +kernel
theorem dX12_lawful_21 : decode cX12_lawful 21 = .ok (.iload_n 1, 1) := by decide +kernel
theorem dX12_lawful_22 : decode cX12_lawful 22 = .ok (.iload_n 2, 1) := by decide +kernel
theorem dX12_lawful_23 : decode cX12_lawful 23 = .ok (.invokevirtual 100, 3) := by decide +kernel
theorem dX12_lawful_26 : decode cX12_lawful 26 = .ok (.ifCond .eq 7, 3) := by decide +kernel
theorem dX12_lawful_29 : decode cX12_lawful 29 = .ok (.iconst 1, 1) := by decide +kernel
theorem dX12_lawful_30 : decode cX12_lawful 30 = .ok (.goto 4, 3) := by decide +kernel
theorem dX12_lawful_33 : decode cX12_lawful 33 = .ok (.iconst 0, 1) := by decide +kernel
theorem dX12_lawful_34 : decode cX12_lawful 34 = .ok (.ireturn, 1) := by decide +kernel
theorem dX12_sale_0 : decode cX12_sale 0 = .ok (.aload_n 0, 1) := by decide +kernel
theorem dX12_sale_1 : decode cX12_sale 1 = .ok (.iconst 0, 1) := by decide +kernel
theorem dX12_sale_2 : decode cX12_sale 2 = .ok (.putfield 73, 3) := by decide +kernel
theorem dX12_sale_5 : decode cX12_sale 5 = .ok (.aload_n 0, 1) := by decide +kernel
theorem dX12_sale_6 : decode cX12_sale 6 = .ok (.iload_n 1, 1) := by decide +kernel
theorem dX12_sale_7 : decode cX12_sale 7 = .ok (.iload_n 2, 1) := by decide +kernel
theorem dX12_sale_8 : decode cX12_sale 8 = .ok (.invokevirtual 195, 3) := by decide +kernel
theorem dX12_sale_11 : decode cX12_sale 11 = .ok (.ifCond .eq 10, 3) := by decide +kernel
theorem dX12_sale_14 : decode cX12_sale 14 = .ok (.iload_n 3, 1) := by decide +kernel
theorem dX12_sale_15 : decode cX12_sale 15 = .ok (.invokestatic 210, 3) := by decide +kernel
theorem dX12_sale_18 : decode cX12_sale 18 = .ok (.ifCond .ne 9, 3) := by decide +kernel
theorem dX12_sale_21 : decode cX12_sale 21 = .ok (.aload_n 0, 1) := by decide +kernel
theorem dX12_sale_22 : decode cX12_sale 22 = .ok (.iconst (-1), 1) := by decide +kernel
theorem dX12_sale_23 : decode cX12_sale 23 = .ok (.invokevirtual 163, 3) := by decide +kernel
theorem dX12_sale_26 : decode cX12_sale 26 = .ok (.ireturn, 1) := by decide +kernel
theorem dX12_sale_27 : decode cX12_sale 27 = .ok (.aload_n 0, 1) := by decide +kernel
theorem dX12_sale_28 : decode cX12_sale 28 = .ok (.iload_n 1, 1) := by decide +kernel
theorem dX12_sale_29 : decode cX12_sale 29 = .ok (.iload_n 2, 1) := by decide +kernel
theorem dX12_sale_30 : decode cX12_sale 30 = .ok (.iload_n 3, 1) := by decide +kernel
theorem dX12_sale_31 : decode cX12_sale 31 = .ok (.invokevirtual 107, 3) := by decide +kernel
theorem dX12_sale_34 : decode cX12_sale 34 = .ok (.ifCond .ne 10, 3) := by decide +kernel
theorem dX12_sale_37 : decode cX12_sale 37 = .ok (.aload_n 0, 1) := by decide +kernel
theorem dX12_sale_38 : decode cX12_sale 38 = .ok (.bipush (-3), 2) := by decide +kernel
theorem dX12_sale_40 : decode cX12_sale 40 = .ok (.invokevirtual 163, 3) := by decide +kernel
theorem dX12_sale_43 : decode cX12_sale 43 = .ok (.ireturn, 1) := by decide +kernel
theorem dX12_sale_44 : decode cX12_sale 44 = .ok (.aload_n 0, 1) := by decide +kernel
theorem dX12_sale_45 : decode cX12_sale 45 = .ok (.iload_n 1, 1) := by decide +kernel
theorem dX12_sale_46 : decode cX12_sale 46 = .ok (.iload_n 2, 1) := by decide +kernel
theorem dX12_sale_47 : decode cX12_sale 47 = .ok (.iload_n 3, 1) := by decide +kernel
theorem dX12_sale_48 : decode cX12_sale 48 = .ok (.invokevirtual 111, 3) := by decide +kernel
theorem dX12_sale_51 : decode cX12_sale 51 = .ok (.aload_n 0, 1) := by decide +kernel
theorem dX12_sale_52 : decode cX12_sale 52 = .ok (.getfield 31, 3) := by decide +kernel
theorem dX12_sale_55 : decode cX12_sale 55 = .ok (.iload_n 2, 1) := by decide +kernel
theorem dX12_sale_56 : decode cX12_sale 56 = .ok (.iaload, 1) := by decide +kernel
theorem dX12_sale_57 : decode cX12_sale 57 = .ok (.ireturn, 1) := by decide +kernel
theorem dX12_week_0 : decode cX12_week 0 = .ok (.aload_n 0, 1) := by decide +kernel
theorem dX12_week_1 : decode cX12_week 1 = .ok (.iconst 0, 1) := by decide +kernel
theorem dX12_week_2 : decode cX12_week 2 = .ok (.putfield 73, 3) := by decide +kernel
theorem dX12_week_5 : decode cX12_week 5 = .ok (.aload_n 0, 1) := by decide +kernel
theorem dX12_week_6 : decode cX12_week 6 = .ok (.getfield 122, 3) := by decide +kernel
theorem dX12_week_9 : decode cX12_week 9 = .ok (.sipush 9999, 3) := by decide +kernel
theorem dX12_week_12 : decode cX12_week 12 = .ok (.if_icmp .ne 12, 3) := by decide +kernel
theorem dX12_week_15 : decode cX12_week 15 = .ok (.aload_n 0, 1) := by decide +kernel
theorem dX12_week_16 : decode cX12_week 16 = .ok (.bipush (-6), 2) := by decide +kernel
theorem dX12_week_18 : decode cX12_week 18 = .ok (.invokevirtual 163, 3) := by decide +kernel
theorem dX12_week_21 : decode cX12_week 21 = .ok (.goto 7, 3) := by decide +kernel
theorem dX12_week_24 : decode cX12_week 24 = .ok (.aload_n 0, 1) := by decide +kernel
theorem dX12_week_25 : decode cX12_week 25 = .ok (.invokevirtual 213, 3) := by decide +kernel
theorem dX12_week_28 : decode cX12_week 28 = .ok (.ireturn, 1) := by decide +kernel
theorem dX12_mule_0 : decode cX12_mule 0 = .ok (.aload_n 0, 1) := by decide +kernel
theorem dX12_mule_1 : decode cX12_mule 1 = .ok (.iconst 0, 1) := by decide +kernel
theorem dX12_mule_2 : decode cX12_mule 2 = .ok (.putfield 73, 3) := by decide +kernel
theorem dX12_mule_5 : decode cX12_mule 5 = .ok (.aload_n 0, 1) := by decide +kernel
theorem dX12_mule_6 : decode cX12_mule 6 = .ok (.iload_n 1, 1) := by decide +kernel
theorem dX12_mule_7 : decode cX12_mule 7 = .ok (.iload_n 2, 1) := by decide +kernel
theorem dX12_mule_8 : decode cX12_mule 8 = .ok (.invokevirtual 195, 3) := by decide +kernel
theorem dX12_mule_11 : decode cX12_mule 11 = .ok (.ifCond .ne 7, 3) := by decide +kernel
theorem dX12_mule_14 : decode cX12_mule 14 = .ok (.iconst (-1), 1) := by decide +kernel
theorem dX12_mule_15 : decode cX12_mule 15 = .ok (.goto 30, 3) := by decide +kernel
theorem dX12_mule_18 : decode cX12_mule 18 = .ok (.iload_n 3, 1) := by decide +kernel
theorem dX12_mule_19 : decode cX12_mule 19 = .ok (.iconst 1, 1) := by decide +kernel
theorem dX12_mule_20 : decode cX12_mule 20 = .ok (.if_icmp .ge 8, 3) := by decide +kernel
theorem dX12_mule_23 : decode cX12_mule 23 = .ok (.bipush (-4), 2) := by decide +kernel
theorem dX12_mule_25 : decode cX12_mule 25 = .ok (.goto 20, 3) := by decide +kernel
theorem dX12_mule_28 : decode cX12_mule 28 = .ok (.aload_n 0, 1) := by decide +kernel
theorem dX12_mule_29 : decode cX12_mule 29 = .ok (.getfield 122, 3) := by decide +kernel
theorem dX12_mule_32 : decode cX12_mule 32 = .ok (.aload_n 0, 1) := by decide +kernel
theorem dX12_mule_33 : decode cX12_mule 33 = .ok (.getfield 153, 3) := by decide +kernel
theorem dX12_mule_36 : decode cX12_mule 36 = .ok (.if_icmp .ge 8, 3) := by decide +kernel
theorem dX12_mule_39 : decode cX12_mule 39 = .ok (.bipush (-3), 2) := by decide +kernel
theorem dX12_mule_41 : decode cX12_mule 41 = .ok (.goto 4, 3) := by decide +kernel
theorem dX12_mule_44 : decode cX12_mule 44 = .ok (.iconst 0, 1) := by decide +kernel
theorem dX12_mule_45 : decode cX12_mule 45 = .ok (.istore 4, 2) := by decide +kernel
theorem dX12_mule_47 : decode cX12_mule 47 = .ok (.iload 4, 2) := by decide +kernel
theorem dX12_mule_49 : decode cX12_mule 49 = .ok (.ifCond .ne 31, 3) := by decide +kernel
theorem dX12_mule_52 : decode cX12_mule 52 = .ok (.iload_n 3, 1) := by decide +kernel
theorem dX12_mule_53 : decode cX12_mule 53 = .ok (.aload_n 0, 1) := by decide +kernel
theorem dX12_mule_54 : decode cX12_mule 54 = .ok (.getfield 31, 3) := by decide +kernel
theorem dX12_mule_57 : decode cX12_mule 57 = .ok (.iload_n 1, 1) := by decide +kernel
theorem dX12_mule_58 : decode cX12_mule 58 = .ok (.iaload, 1) := by decide +kernel
theorem dX12_mule_59 : decode cX12_mule 59 = .ok (.if_icmp .gt 17, 3) := by decide +kernel
theorem dX12_mule_62 : decode cX12_mule 62 = .ok (.aload_n 0, 1) := by decide +kernel
theorem dX12_mule_63 : decode cX12_mule 63 = .ok (.getfield 31, 3) := by decide +kernel
theorem dX12_mule_66 : decode cX12_mule 66 = .ok (.iload_n 2, 1) := by decide +kernel
theorem dX12_mule_67 : decode cX12_mule 67 = .ok (.iaload, 1) := by decide +kernel
theorem dX12_mule_68 : decode cX12_mule 68 = .ok (.iload_n 3, 1) := by decide +kernel
theorem dX12_mule_69 : decode cX12_mule 69 = .ok (.iadd, 1) := by decide +kernel
theorem dX12_mule_70 : decode cX12_mule 70 = .ok (.sipush 9999, 3) := by decide +kernel
theorem dX12_mule_73 : decode cX12_mule 73 = .ok (.if_icmp .le 7, 3) := by decide +kernel
theorem dX12_mule_76 : decode cX12_mule 76 = .ok (.bipush (-6), 2) := by decide +kernel
theorem dX12_mule_78 : decode cX12_mule 78 = .ok (.istore 4, 2) := by decide +kernel
theorem dX12_mule_80 : decode cX12_mule 80 = .ok (.iload 4, 2) := by decide +kernel
theorem dX12_mule_82 : decode cX12_mule 82 = .ok (.ifCond .ge 10, 3) := by decide +kernel
theorem dX12_mule_85 : decode cX12_mule 85 = .ok (.aload_n 0, 1) := by decide +kernel
theorem dX12_mule_86 : decode cX12_mule 86 = .ok (.iload 4, 2) := by decide +kernel
theorem dX12_mule_88 : decode cX12_mule 88 = .ok (.invokevirtual 163, 3) := by decide +kernel
theorem dX12_mule_91 : decode cX12_mule 91 = .ok (.ireturn, 1) := by decide +kernel
theorem dX12_mule_92 : decode cX12_mule 92 = .ok (.aload_n 0, 1) := by decide +kernel
theorem dX12_mule_93 : decode cX12_mule 93 = .ok (.getfield 31, 3) := by decide +kernel
theorem dX12_mule_96 : decode cX12_mule 96 = .ok (.iload_n 1, 1) := by decide +kernel
theorem dX12_mule_97 : decode cX12_mule 97 = .ok (.dup2, 1) := by decide +kernel
theorem dX12_mule_98 : decode cX12_mule 98 = .ok (.iaload, 1) := by decide +kernel
theorem dX12_mule_99 : decode cX12_mule 99 = .ok (.iload_n 3, 1) := by decide +kernel
theorem dX12_mule_100 : decode cX12_mule 100 = .ok (.isub, 1) := by decide +kernel
theorem dX12_mule_101 : decode cX12_mule 101 = .ok (.iastore, 1) := by decide +kernel
theorem dX12_mule_102 : decode cX12_mule 102 = .ok (.aload_n 0, 1) := by decide +kernel
theorem dX12_mule_103 : decode cX12_mule 103 = .ok (.getfield 31, 3) := by decide +kernel
theorem dX12_mule_106 : decode cX12_mule 106 = .ok (.iload_n 2, 1) := by decide +kernel
theorem dX12_mule_107 : decode cX12_mule 107 = .ok (.dup2, 1) := by decide +kernel
theorem dX12_mule_108 : decode cX12_mule 108 = .ok (.iaload, 1) := by decide +kernel
theorem dX12_mule_109 : decode cX12_mule 109 = .ok (.iload_n 3, 1) := by decide +kernel
theorem dX12_mule_110 : decode cX12_mule 110 = .ok (.iadd, 1) := by decide +kernel
theorem dX12_mule_111 : decode cX12_mule 111 = .ok (.iastore, 1) := by decide +kernel
theorem dX12_mule_112 : decode cX12_mule 112 = .ok (.aload_n 0, 1) := by decide +kernel
theorem dX12_mule_113 : decode cX12_mule 113 = .ok (.aload_n 0, 1) := by decide +kernel
theorem dX12_mule_114 : decode cX12_mule 114 = .ok (.getfield 122, 3) := by decide +kernel
theorem dX12_mule_117 : decode cX12_mule 117 = .ok (.bipush 52, 2) := by decide +kernel
theorem dX12_mule_119 : decode cX12_mule 119 = .ok (.iadd, 1) := by decide +kernel
theorem dX12_mule_120 : decode cX12_mule 120 = .ok (.putfield 153, 3) := by decide +kernel
theorem dX12_mule_123 : decode cX12_mule 123 = .ok (.aload_n 0, 1) := by decide +kernel
theorem dX12_mule_124 : decode cX12_mule 124 = .ok (.getfield 153, 3) := by decide +kernel
theorem dX12_mule_127 : decode cX12_mule 127 = .ok (.ireturn, 1) := by decide +kernel
theorem dX12_owe_0 : decode cX12_owe 0 = .ok (.aload_n 0, 1) := by decide +kernel
theorem dX12_owe_1 : decode cX12_owe 1 = .ok (.iconst 0, 1) := by decide +kernel
theorem dX12_owe_2 : decode cX12_owe 2 = .ok (.putfield 73, 3) := by decide +kernel
theorem dX12_owe_5 : decode cX12_owe 5 = .ok (.aload_n 0, 1) := by decide +kernel
theorem dX12_owe_6 : decode cX12_owe 6 = .ok (.iload_n 1, 1) := by decide +kernel
theorem dX12_owe_7 : decode cX12_owe 7 = .ok (.iload_n 2, 1) := by decide +kernel
theorem dX12_owe_8 : decode cX12_owe 8 = .ok (.invokevirtual 195, 3) := by decide +kernel
theorem dX12_owe_11 : decode cX12_owe 11 = .ok (.ifCond .ne 7, 3) := by decide +kernel
theorem dX12_owe_14 : decode cX12_owe 14 = .ok (.iconst (-1), 1) := by decide +kernel
theorem dX12_owe_15 : decode cX12_owe 15 = .ok (.goto 24, 3) := by decide +kernel
theorem dX12_owe_18 : decode cX12_owe 18 = .ok (.iload_n 3, 1) := by decide +kernel
theorem dX12_owe_19 : decode cX12_owe 19 = .ok (.ifCond .ge 8, 3) := by decide +kernel
theorem dX12_owe_22 : decode cX12_owe 22 = .ok (.bipush (-4), 2) := by decide +kernel
theorem dX12_owe_24 : decode cX12_owe 24 = .ok (.goto 15, 3) := by decide +kernel
theorem dX12_owe_27 : decode cX12_owe 27 = .ok (.iload_n 3, 1) := by decide +kernel
theorem dX12_owe_28 : decode cX12_owe 28 = .ok (.bipush 99, 2) := by decide +kernel
theorem dX12_owe_30 : decode cX12_owe 30 = .ok (.if_icmp .le 8, 3) := by decide +kernel
theorem dX12_owe_33 : decode cX12_owe 33 = .ok (.bipush (-6), 2) := by decide +kernel
theorem dX12_owe_35 : decode cX12_owe 35 = .ok (.goto 4, 3) := by decide +kernel
theorem dX12_owe_38 : decode cX12_owe 38 = .ok (.iconst 0, 1) := by decide +kernel
theorem dX12_owe_39 : decode cX12_owe 39 = .ok (.istore 4, 2) := by decide +kernel
theorem dX12_owe_41 : decode cX12_owe 41 = .ok (.iload 4, 2) := by decide +kernel
theorem dX12_owe_43 : decode cX12_owe 43 = .ok (.ifCond .ge 10, 3) := by decide +kernel
theorem dX12_owe_46 : decode cX12_owe 46 = .ok (.aload_n 0, 1) := by decide +kernel
theorem dX12_owe_47 : decode cX12_owe 47 = .ok (.iload 4, 2) := by decide +kernel
theorem dX12_owe_49 : decode cX12_owe 49 = .ok (.invokevirtual 163, 3) := by decide +kernel
theorem dX12_owe_52 : decode cX12_owe 52 = .ok (.ireturn, 1) := by decide +kernel
theorem dX12_owe_53 : decode cX12_owe 53 = .ok (.aload_n 0, 1) := by decide +kernel
theorem dX12_owe_54 : decode cX12_owe 54 = .ok (.iload_n 1, 1) := by decide +kernel
theorem dX12_owe_55 : decode cX12_owe 55 = .ok (.iload_n 2, 1) := by decide +kernel
theorem dX12_owe_56 : decode cX12_owe 56 = .ok (.invokevirtual 125, 3) := by decide +kernel
theorem dX12_owe_59 : decode cX12_owe 59 = .ok (.istore 5, 2) := by decide +kernel
theorem dX12_owe_61 : decode cX12_owe 61 = .ok (.aload_n 0, 1) := by decide +kernel
theorem dX12_owe_62 : decode cX12_owe 62 = .ok (.getfield 37, 3) := by decide +kernel
theorem dX12_owe_65 : decode cX12_owe 65 = .ok (.bipush 6, 2) := by decide +kernel
theorem dX12_owe_67 : decode cX12_owe 67 = .ok (.iload_n 1, 1) := by decide +kernel
theorem dX12_owe_68 : decode cX12_owe 68 = .ok (.imul, 1) := by decide +kernel
theorem dX12_owe_69 : decode cX12_owe 69 = .ok (.iload_n 2, 1) := by decide +kernel
theorem dX12_owe_70 : decode cX12_owe 70 = .ok (.iadd, 1) := by decide +kernel
theorem dX12_owe_71 : decode cX12_owe 71 = .ok (.iload_n 3, 1) := by decide +kernel
theorem dX12_owe_72 : decode cX12_owe 72 = .ok (.iastore, 1) := by decide +kernel
theorem dX12_owe_73 : decode cX12_owe 73 = .ok (.iload 5, 2) := by decide +kernel
theorem dX12_owe_75 : decode cX12_owe 75 = .ok (.ireturn, 1) := by decide +kernel
theorem dX12_strike_0 : decode cX12_strike 0 = .ok (.aload_n 0, 1) := by decide +kernel
theorem dX12_strike_1 : decode cX12_strike 1 = .ok (.iconst 0, 1) := by decide +kernel
theorem dX12_strike_2 : decode cX12_strike 2 = .ok (.putfield 73, 3) := by decide +kernel
theorem dX12_strike_5 : decode cX12_strike 5 = .ok (.aload_n 0, 1) := by decide +kernel
theorem dX12_strike_6 : decode cX12_strike 6 = .ok (.invokevirtual 216, 3) := by decide +kernel
theorem dX12_strike_9 : decode cX12_strike 9 = .ok (.ireturn, 1) := by decide +kernel
theorem dX12_servedIn_0 : decode cX12_servedIn 0 = .ok (.iconst 0, 1) := by decide +kernel
theorem dX12_servedIn_1 : decode cX12_servedIn 1 = .ok (.istore_n 2, 1) := by decide +kernel
theorem dX12_servedIn_2 : decode cX12_servedIn 2 = .ok (.iconst 0, 1) := by decide +kernel
theorem dX12_servedIn_3 : decode cX12_servedIn 3 = .ok (.istore_n 3, 1) := by decide +kernel
theorem dX12_servedIn_4 : decode cX12_servedIn 4 = .ok (.iload_n 3, 1) := by decide +kernel
theorem dX12_servedIn_5 : decode cX12_servedIn 5 = .ok (.iload_n 1, 1) := by decide +kernel
theorem dX12_servedIn_6 : decode cX12_servedIn 6 = .ok (.if_icmp .ge 16, 3) := by decide +kernel
theorem dX12_servedIn_9 : decode cX12_servedIn 9 = .ok (.iload_n 2, 1) := by decide +kernel
theorem dX12_servedIn_10 : decode cX12_servedIn 10 = .ok (.aload_n 0, 1) := by decide +kernel
theorem dX12_servedIn_11 : decode cX12_servedIn 11 = .ok (.invokevirtual 213, 3) := by decide +kernel
theorem dX12_servedIn_14 : decode cX12_servedIn 14 = .ok (.iadd, 1) := by decide +kernel
theorem dX12_servedIn_15 : decode cX12_servedIn 15 = .ok (.istore_n 2, 1) := by decide +kernel
theorem dX12_servedIn_16 : decode cX12_servedIn 16 = .ok (.iinc 3 1, 3) := by decide +kernel
theorem dX12_servedIn_19 : decode cX12_servedIn 19 = .ok (.goto (-15), 3) := by decide +kernel
theorem dX12_servedIn_22 : decode cX12_servedIn 22 = .ok (.iload_n 2, 1) := by decide +kernel
theorem dX12_servedIn_23 : decode cX12_servedIn 23 = .ok (.ireturn, 1) := by decide +kernel
theorem dX12_behind_0 : decode cX12_behind 0 = .ok (.aload_n 0, 1) := by decide +kernel
theorem dX12_behind_1 : decode cX12_behind 1 = .ok (.iconst 0, 1) := by decide +kernel
theorem dX12_behind_2 : decode cX12_behind 2 = .ok (.putfield 73, 3) := by decide +kernel
theorem dX12_behind_5 : decode cX12_behind 5 = .ok (.aload_n 0, 1) := by decide +kernel
theorem dX12_behind_6 : decode cX12_behind 6 = .ok (.iload_n 1, 1) := by decide +kernel
theorem dX12_behind_7 : decode cX12_behind 7 = .ok (.invokevirtual 84, 3) := by decide +kernel
theorem dX12_behind_10 : decode cX12_behind 10 = .ok (.ifCond .ne 7, 3) := by decide +kernel
theorem dX12_behind_13 : decode cX12_behind 13 = .ok (.iconst (-1), 1) := by decide +kernel
theorem dX12_behind_14 : decode cX12_behind 14 = .ok (.goto 24, 3) := by decide +kernel
theorem dX12_behind_17 : decode cX12_behind 17 = .ok (.iload_n 2, 1) := by decide +kernel
theorem dX12_behind_18 : decode cX12_behind 18 = .ok (.ifCond .ge 8, 3) := by decide +kernel
theorem dX12_behind_21 : decode cX12_behind 21 = .ok (.bipush (-4), 2) := by decide +kernel
theorem dX12_behind_23 : decode cX12_behind 23 = .ok (.goto 15, 3) := by decide +kernel
theorem dX12_behind_26 : decode cX12_behind 26 = .ok (.iload_n 2, 1) := by decide +kernel
theorem dX12_behind_27 : decode cX12_behind 27 = .ok (.bipush 60, 2) := by decide +kernel
theorem dX12_behind_29 : decode cX12_behind 29 = .ok (.if_icmp .le 8, 3) := by decide +kernel
theorem dX12_behind_32 : decode cX12_behind 32 = .ok (.bipush (-6), 2) := by decide +kernel
theorem dX12_behind_34 : decode cX12_behind 34 = .ok (.goto 4, 3) := by decide +kernel
theorem dX12_behind_37 : decode cX12_behind 37 = .ok (.iconst 0, 1) := by decide +kernel
theorem dX12_behind_38 : decode cX12_behind 38 = .ok (.istore_n 3, 1) := by decide +kernel
theorem dX12_behind_39 : decode cX12_behind 39 = .ok (.iload_n 3, 1) := by decide +kernel
theorem dX12_behind_40 : decode cX12_behind 40 = .ok (.ifCond .ge 9, 3) := by decide +kernel
theorem dX12_behind_43 : decode cX12_behind 43 = .ok (.aload_n 0, 1) := by decide +kernel
theorem dX12_behind_44 : decode cX12_behind 44 = .ok (.iload_n 3, 1) := by decide +kernel
theorem dX12_behind_45 : decode cX12_behind 45 = .ok (.invokevirtual 163, 3) := by decide +kernel
theorem dX12_behind_48 : decode cX12_behind 48 = .ok (.ireturn, 1) := by decide +kernel
theorem dX12_behind_49 : decode cX12_behind 49 = .ok (.aload_n 0, 1) := by decide +kernel
theorem dX12_behind_50 : decode cX12_behind 50 = .ok (.invokevirtual 201, 3) := by decide +kernel
theorem dX12_behind_53 : decode cX12_behind 53 = .ok (.aload_n 0, 1) := by decide +kernel
theorem dX12_behind_54 : decode cX12_behind 54 = .ok (.iload_n 2, 1) := by decide +kernel
theorem dX12_behind_55 : decode cX12_behind 55 = .ok (.invokevirtual 219, 3) := by decide +kernel
theorem dX12_behind_58 : decode cX12_behind 58 = .ok (.pop, 1) := by decide +kernel
theorem dX12_behind_59 : decode cX12_behind 59 = .ok (.aload_n 0, 1) := by decide +kernel
theorem dX12_behind_60 : decode cX12_behind 60 = .ok (.getfield 31, 3) := by decide +kernel
theorem dX12_behind_63 : decode cX12_behind 63 = .ok (.iload_n 1, 1) := by decide +kernel
theorem dX12_behind_64 : decode cX12_behind 64 = .ok (.iaload, 1) := by decide +kernel
theorem dX12_behind_65 : decode cX12_behind 65 = .ok (.istore 4, 2) := by decide +kernel
theorem dX12_behind_67 : decode cX12_behind 67 = .ok (.aload_n 0, 1) := by decide +kernel
theorem dX12_behind_68 : decode cX12_behind 68 = .ok (.invokevirtual 207, 3) := by decide +kernel
theorem dX12_behind_71 : decode cX12_behind 71 = .ok (.iload 4, 2) := by decide +kernel
theorem dX12_behind_73 : decode cX12_behind 73 = .ok (.ireturn, 1) := by decide +kernel
theorem dX12_wantsOfAll_0 : decode cX12_wantsOfAll 0 = .ok (.iconst 0, 1) := by decide +kernel
theorem dX12_wantsOfAll_1 : decode cX12_wantsOfAll 1 = .ok (.istore_n 1, 1) := by decide +kernel
theorem dX12_wantsOfAll_2 : decode cX12_wantsOfAll 2 = .ok (.iconst 0, 1) := by decide +kernel
theorem dX12_wantsOfAll_3 : decode cX12_wantsOfAll 3 = .ok (.istore_n 2, 1) := by decide +kernel
theorem dX12_wantsOfAll_4 : decode cX12_wantsOfAll 4 = .ok (.iload_n 2, 1) := by decide +kernel
theorem dX12_wantsOfAll_5 : decode cX12_wantsOfAll 5 = .ok (.aload_n 0, 1) := by decide +kernel
theorem dX12_wantsOfAll_6 : decode cX12_wantsOfAll 6 = .ok (.getfield 77, 3) := by decide +kernel
theorem dX12_wantsOfAll_9 : decode cX12_wantsOfAll 9 = .ok (.if_icmp .ge 18, 3) := by decide +kernel
theorem dX12_wantsOfAll_12 : decode cX12_wantsOfAll 12 = .ok (.iload_n 1, 1) := by decide +kernel
theorem dX12_wantsOfAll_13 : decode cX12_wantsOfAll 13 = .ok (.aload_n 0, 1) := by decide +kernel
theorem dX12_wantsOfAll_14 : decode cX12_wantsOfAll 14 = .ok (.getfield 28, 3) := by decide +kernel
theorem dX12_wantsOfAll_17 : decode cX12_wantsOfAll 17 = .ok (.iload_n 2, 1) := by decide +kernel
theorem dX12_wantsOfAll_18 : decode cX12_wantsOfAll 18 = .ok (.iaload, 1) := by decide +kernel
theorem dX12_wantsOfAll_19 : decode cX12_wantsOfAll 19 = .ok (.iadd, 1) := by decide +kernel
theorem dX12_wantsOfAll_20 : decode cX12_wantsOfAll 20 = .ok (.istore_n 1, 1) := by decide +kernel
theorem dX12_wantsOfAll_21 : decode cX12_wantsOfAll 21 = .ok (.iinc 2 1, 3) := by decide +kernel
theorem dX12_wantsOfAll_24 : decode cX12_wantsOfAll 24 = .ok (.goto (-20), 3) := by decide +kernel
theorem dX12_wantsOfAll_27 : decode cX12_wantsOfAll 27 = .ok (.iload_n 1, 1) := by decide +kernel
theorem dX12_wantsOfAll_28 : decode cX12_wantsOfAll 28 = .ok (.ireturn, 1) := by decide +kernel
theorem dX12_served_0 : decode cX12_served 0 = .ok (.aload_n 0, 1) := by decide +kernel
theorem dX12_served_1 : decode cX12_served 1 = .ok (.iconst 0, 1) := by decide +kernel
theorem dX12_served_2 : decode cX12_served 2 = .ok (.putfield 73, 3) := by decide +kernel
theorem dX12_served_5 : decode cX12_served 5 = .ok (.iload_n 2, 1) := by decide +kernel
theorem dX12_served_6 : decode cX12_served 6 = .ok (.i2l, 1) := by decide +kernel
theorem dX12_served_7 : decode cX12_served 7 = .ok (.lconst 0, 1) := by decide +kernel
theorem dX12_served_8 : decode cX12_served 8 = .ok (.lconst 1, 1) := by decide +kernel
theorem dX12_served_9 : decode cX12_served 9 = .ok (.invokestatic 80, 3) := by decide +kernel
theorem dX12_served_12 : decode cX12_served 12 = .ok (.ifCond .ne 8, 3) := by decide +kernel
theorem dX12_served_15 : decode cX12_served 15 = .ok (.bipush (-2), 2) := by decide +kernel
theorem dX12_served_17 : decode cX12_served 17 = .ok (.goto 24, 3) := by decide +kernel
theorem dX12_served_20 : decode cX12_served 20 = .ok (.iload_n 1, 1) := by decide +kernel
theorem dX12_served_21 : decode cX12_served 21 = .ok (.ifCond .ge 8, 3) := by decide +kernel
theorem dX12_served_24 : decode cX12_served 24 = .ok (.bipush (-4), 2) := by decide +kernel
theorem dX12_served_26 : decode cX12_served 26 = .ok (.goto 15, 3) := by decide +kernel
theorem dX12_served_29 : decode cX12_served 29 = .ok (.iload_n 1, 1) := by decide +kernel
theorem dX12_served_30 : decode cX12_served 30 = .ok (.bipush 60, 2) := by decide +kernel
theorem dX12_served_32 : decode cX12_served 32 = .ok (.if_icmp .le 8, 3) := by decide +kernel
theorem dX12_served_35 : decode cX12_served 35 = .ok (.bipush (-6), 2) := by decide +kernel
theorem dX12_served_37 : decode cX12_served 37 = .ok (.goto 4, 3) := by decide +kernel
theorem dX12_served_40 : decode cX12_served 40 = .ok (.iconst 0, 1) := by decide +kernel
theorem dX12_served_41 : decode cX12_served 41 = .ok (.istore_n 3, 1) := by decide +kernel
theorem dX12_served_42 : decode cX12_served 42 = .ok (.iload_n 3, 1) := by decide +kernel
theorem dX12_served_43 : decode cX12_served 43 = .ok (.ifCond .ge 9, 3) := by decide +kernel
theorem dX12_served_46 : decode cX12_served 46 = .ok (.aload_n 0, 1) := by decide +kernel
theorem dX12_served_47 : decode cX12_served 47 = .ok (.iload_n 3, 1) := by decide +kernel
theorem dX12_served_48 : decode cX12_served 48 = .ok (.invokevirtual 163, 3) := by decide +kernel
theorem dX12_served_51 : decode cX12_served 51 = .ok (.ireturn, 1) := by decide +kernel
theorem dX12_served_52 : decode cX12_served 52 = .ok (.aload_n 0, 1) := by decide +kernel
theorem dX12_served_53 : decode cX12_served 53 = .ok (.invokevirtual 201, 3) := by decide +kernel
theorem dX12_served_56 : decode cX12_served 56 = .ok (.aload_n 0, 1) := by decide +kernel
theorem dX12_served_57 : decode cX12_served 57 = .ok (.iload_n 1, 1) := by decide +kernel
theorem dX12_served_58 : decode cX12_served 58 = .ok (.ifCond .le 9, 3) := by decide +kernel
theorem dX12_served_61 : decode cX12_served 61 = .ok (.iload_n 1, 1) := by decide +kernel
theorem dX12_served_62 : decode cX12_served 62 = .ok (.iconst 1, 1) := by decide +kernel
theorem dX12_served_63 : decode cX12_served 63 = .ok (.isub, 1) := by decide +kernel
theorem dX12_served_64 : decode cX12_served 64 = .ok (.goto 4, 3) := by decide +kernel
theorem dX12_served_67 : decode cX12_served 67 = .ok (.iconst 0, 1) := by decide +kernel
theorem dX12_served_68 : decode cX12_served 68 = .ok (.invokevirtual 219, 3) := by decide +kernel
theorem dX12_served_71 : decode cX12_served 71 = .ok (.istore 4, 2) := by decide +kernel
theorem dX12_served_73 : decode cX12_served 73 = .ok (.aload_n 0, 1) := by decide +kernel
theorem dX12_served_74 : decode cX12_served 74 = .ok (.iload_n 1, 1) := by decide +kernel
theorem dX12_served_75 : decode cX12_served 75 = .ok (.ifCond .le 7, 3) := by decide +kernel
theorem dX12_served_78 : decode cX12_served 78 = .ok (.iconst 1, 1) := by decide +kernel
theorem dX12_served_79 : decode cX12_served 79 = .ok (.goto 4, 3) := by decide +kernel
theorem dX12_served_82 : decode cX12_served 82 = .ok (.iconst 0, 1) := by decide +kernel
theorem dX12_served_83 : decode cX12_served 83 = .ok (.invokevirtual 219, 3) := by decide +kernel
theorem dX12_served_86 : decode cX12_served 86 = .ok (.istore 5, 2) := by decide +kernel
theorem dX12_served_88 : decode cX12_served 88 = .ok (.aload_n 0, 1) := by decide +kernel
theorem dX12_served_89 : decode cX12_served 89 = .ok (.invokevirtual 207, 3) := by decide +kernel
theorem dX12_served_92 : decode cX12_served 92 = .ok (.iload_n 2, 1) := by decide +kernel
theorem dX12_served_93 : decode cX12_served 93 = .ok (.ifCond .ne 11, 3) := by decide +kernel
theorem dX12_served_96 : decode cX12_served 96 = .ok (.iload 4, 2) := by decide +kernel
theorem dX12_served_98 : decode cX12_served 98 = .ok (.iload 5, 2) := by decide +kernel
theorem dX12_served_100 : decode cX12_served 100 = .ok (.iadd, 1) := by decide +kernel
theorem dX12_served_101 : decode cX12_served 101 = .ok (.goto 18, 3) := by decide +kernel
theorem dX12_served_104 : decode cX12_served 104 = .ok (.iload_n 1, 1) := by decide +kernel
theorem dX12_served_105 : decode cX12_served 105 = .ok (.ifCond .ne 7, 3) := by decide +kernel
theorem dX12_served_108 : decode cX12_served 108 = .ok (.iconst 0, 1) := by decide +kernel
theorem dX12_served_109 : decode cX12_served 109 = .ok (.goto 10, 3) := by decide +kernel
theorem dX12_served_112 : decode cX12_served 112 = .ok (.aload_n 0, 1) := by decide +kernel
theorem dX12_served_113 : decode cX12_served 113 = .ok (.invokevirtual 222, 3) := by decide +kernel
theorem dX12_served_116 : decode cX12_served 116 = .ok (.iload 5, 2) := by decide +kernel
theorem dX12_served_118 : decode cX12_served 118 = .ok (.isub, 1) := by decide +kernel
theorem dX12_served_119 : decode cX12_served 119 = .ok (.ireturn, 1) := by decide +kernel
theorem dX12_drift_0 : decode cX12_drift 0 = .ok (.aload_n 0, 1) := by decide +kernel
theorem dX12_drift_1 : decode cX12_drift 1 = .ok (.iconst 0, 1) := by decide +kernel
theorem dX12_drift_2 : decode cX12_drift 2 = .ok (.putfield 73, 3) := by decide +kernel
theorem dX12_drift_5 : decode cX12_drift 5 = .ok (.iload_n 1, 1) := by decide +kernel
theorem dX12_drift_6 : decode cX12_drift 6 = .ok (.i2l, 1) := by decide +kernel
theorem dX12_drift_7 : decode cX12_drift 7 = .ok (.lconst 0, 1) := by decide +kernel
theorem dX12_drift_8 : decode cX12_drift 8 = .ok (.lconst 1, 1) := by decide +kernel
theorem dX12_drift_9 : decode cX12_drift 9 = .ok (.invokestatic 80, 3) := by decide +kernel
theorem dX12_drift_12 : decode cX12_drift 12 = .ok (.ifCond .eq 10, 3) := by decide +kernel
theorem dX12_drift_15 : decode cX12_drift 15 = .ok (.aload_n 0, 1) := by decide +kernel
theorem dX12_drift_16 : decode cX12_drift 16 = .ok (.getfield 77, 3) := by decide +kernel
theorem dX12_drift_19 : decode cX12_drift 19 = .ok (.ifCond .ne 25, 3) := by decide +kernel
theorem dX12_drift_22 : decode cX12_drift 22 = .ok (.aload_n 0, 1) := by decide +kernel
theorem dX12_drift_23 : decode cX12_drift 23 = .ok (.iload_n 1, 1) := by decide +kernel
theorem dX12_drift_24 : decode cX12_drift 24 = .ok (.i2l, 1) := by decide +kernel
theorem dX12_drift_25 : decode cX12_drift 25 = .ok (.lconst 0, 1) := by decide +kernel
theorem dX12_drift_26 : decode cX12_drift 26 = .ok (.lconst 1, 1) := by decide +kernel
theorem dX12_drift_27 : decode cX12_drift 27 = .ok (.invokestatic 80, 3) := by decide +kernel
theorem dX12_drift_30 : decode cX12_drift 30 = .ok (.ifCond .eq 8, 3) := by decide +kernel
theorem dX12_drift_33 : decode cX12_drift 33 = .ok (.bipush (-3), 2) := by decide +kernel
theorem dX12_drift_35 : decode cX12_drift 35 = .ok (.goto 5, 3) := by decide +kernel
theorem dX12_drift_38 : decode cX12_drift 38 = .ok (.bipush (-2), 2) := by decide +kernel
theorem dX12_drift_40 : decode cX12_drift 40 = .ok (.invokevirtual 163, 3) := by decide +kernel
theorem dX12_drift_43 : decode cX12_drift 43 = .ok (.ireturn, 1) := by decide +kernel
theorem dX12_drift_44 : decode cX12_drift 44 = .ok (.aload_n 0, 1) := by decide +kernel
theorem dX12_drift_45 : decode cX12_drift 45 = .ok (.invokevirtual 201, 3) := by decide +kernel
theorem dX12_drift_48 : decode cX12_drift 48 = .ok (.bipush (-9), 2) := by decide +kernel
theorem dX12_drift_50 : decode cX12_drift 50 = .ok (.istore_n 2, 1) := by decide +kernel
theorem dX12_drift_51 : decode cX12_drift 51 = .ok (.bipush (-9), 2) := by decide +kernel
theorem dX12_drift_53 : decode cX12_drift 53 = .ok (.istore_n 3, 1) := by decide +kernel
theorem dX12_drift_54 : decode cX12_drift 54 = .ok (.iconst 0, 1) := by decide +kernel
theorem dX12_drift_55 : decode cX12_drift 55 = .ok (.istore 4, 2) := by decide +kernel
theorem dX12_drift_57 : decode cX12_drift 57 = .ok (.iload 4, 2) := by decide +kernel
theorem dX12_drift_59 : decode cX12_drift 59 = .ok (.bipush 100, 2) := by decide +kernel
theorem dX12_drift_61 : decode cX12_drift 61 = .ok (.if_icmp .gt 95, 3) := by decide +kernel
theorem dX12_drift_64 : decode cX12_drift 64 = .ok (.iload_n 2, 1) := by decide +kernel
theorem dX12_drift_65 : decode cX12_drift 65 = .ok (.ifCond .ge 91, 3) := by decide +kernel
theorem dX12_drift_68 : decode cX12_drift 68 = .ok (.iconst 0, 1) := by decide +kernel
theorem dX12_drift_69 : decode cX12_drift 69 = .ok (.istore 5, 2) := by decide +kernel
theorem dX12_drift_71 : decode cX12_drift 71 = .ok (.iconst 1, 1) := by decide +kernel
theorem dX12_drift_72 : decode cX12_drift 72 = .ok (.istore 6, 2) := by decide +kernel
theorem dX12_drift_74 : decode cX12_drift 74 = .ok (.iload 6, 2) := by decide +kernel
theorem dX12_drift_76 : decode cX12_drift 76 = .ok (.aload_n 0, 1) := by decide +kernel
theorem dX12_drift_77 : decode cX12_drift 77 = .ok (.getfield 77, 3) := by decide +kernel
theorem dX12_drift_80 : decode cX12_drift 80 = .ok (.if_icmp .ge 35, 3) := by decide +kernel
theorem dX12_drift_83 : decode cX12_drift 83 = .ok (.aload_n 0, 1) := by decide +kernel
theorem dX12_drift_84 : decode cX12_drift 84 = .ok (.getfield 31, 3) := by decide +kernel
theorem dX12_drift_87 : decode cX12_drift 87 = .ok (.iload 6, 2) := by decide +kernel
theorem dX12_drift_89 : decode cX12_drift 89 = .ok (.iaload, 1) := by decide +kernel
theorem dX12_drift_90 : decode cX12_drift 90 = .ok (.aload_n 0, 1) := by decide +kernel
theorem dX12_drift_91 : decode cX12_drift 91 = .ok (.getfield 31, 3) := by decide +kernel
theorem dX12_drift_94 : decode cX12_drift 94 = .ok (.iload 5, 2) := by decide +kernel
theorem dX12_drift_96 : decode cX12_drift 96 = .ok (.iaload, 1) := by decide +kernel
theorem dX12_drift_97 : decode cX12_drift 97 = .ok (.if_icmp .le 8, 3) := by decide +kernel
theorem dX12_drift_100 : decode cX12_drift 100 = .ok (.iload 6, 2) := by decide +kernel
theorem dX12_drift_102 : decode cX12_drift 102 = .ok (.goto 5, 3) := by decide +kernel
theorem dX12_drift_105 : decode cX12_drift 105 = .ok (.iload 5, 2) := by decide +kernel
theorem dX12_drift_107 : decode cX12_drift 107 = .ok (.istore 5, 2) := by decide +kernel
theorem dX12_drift_109 : decode cX12_drift 109 = .ok (.iinc 6 1, 3) := by decide +kernel
theorem dX12_drift_112 : decode cX12_drift 112 = .ok (.goto (-38), 3) := by decide +kernel
theorem dX12_drift_115 : decode cX12_drift 115 = .ok (.aload_n 0, 1) := by decide +kernel
theorem dX12_drift_116 : decode cX12_drift 116 = .ok (.invokevirtual 213, 3) := by decide +kernel
theorem dX12_drift_119 : decode cX12_drift 119 = .ok (.pop, 1) := by decide +kernel
theorem dX12_drift_120 : decode cX12_drift 120 = .ok (.aload_n 0, 1) := by decide +kernel
theorem dX12_drift_121 : decode cX12_drift 121 = .ok (.getfield 115, 3) := by decide +kernel
theorem dX12_drift_124 : decode cX12_drift 124 = .ok (.ifCond .ne 8, 3) := by decide +kernel
theorem dX12_drift_127 : decode cX12_drift 127 = .ok (.iload 4, 2) := by decide +kernel
theorem dX12_drift_129 : decode cX12_drift 129 = .ok (.goto 5, 3) := by decide +kernel
theorem dX12_drift_132 : decode cX12_drift 132 = .ok (.bipush (-9), 2) := by decide +kernel
theorem dX12_drift_134 : decode cX12_drift 134 = .ok (.istore_n 2, 1) := by decide +kernel
theorem dX12_drift_135 : decode cX12_drift 135 = .ok (.aload_n 0, 1) := by decide +kernel
theorem dX12_drift_136 : decode cX12_drift 136 = .ok (.getfield 115, 3) := by decide +kernel
theorem dX12_drift_139 : decode cX12_drift 139 = .ok (.ifCond .ne 8, 3) := by decide +kernel
theorem dX12_drift_142 : decode cX12_drift 142 = .ok (.iload 5, 2) := by decide +kernel
theorem dX12_drift_144 : decode cX12_drift 144 = .ok (.goto 5, 3) := by decide +kernel
theorem dX12_drift_147 : decode cX12_drift 147 = .ok (.bipush (-9), 2) := by decide +kernel
theorem dX12_drift_149 : decode cX12_drift 149 = .ok (.istore_n 3, 1) := by decide +kernel
theorem dX12_drift_150 : decode cX12_drift 150 = .ok (.iinc 4 1, 3) := by decide +kernel
theorem dX12_drift_153 : decode cX12_drift 153 = .ok (.goto (-96), 3) := by decide +kernel
theorem dX12_drift_156 : decode cX12_drift 156 = .ok (.aload_n 0, 1) := by decide +kernel
theorem dX12_drift_157 : decode cX12_drift 157 = .ok (.invokevirtual 207, 3) := by decide +kernel
theorem dX12_drift_160 : decode cX12_drift 160 = .ok (.iload_n 1, 1) := by decide +kernel
theorem dX12_drift_161 : decode cX12_drift 161 = .ok (.ifCond .ne 7, 3) := by decide +kernel
theorem dX12_drift_164 : decode cX12_drift 164 = .ok (.iload_n 2, 1) := by decide +kernel
theorem dX12_drift_165 : decode cX12_drift 165 = .ok (.goto 4, 3) := by decide +kernel
theorem dX12_drift_168 : decode cX12_drift 168 = .ok (.iload_n 3, 1) := by decide +kernel
theorem dX12_drift_169 : decode cX12_drift 169 = .ok (.ireturn, 1) := by decide +kernel
theorem dX12_stuck_0 : decode cX12_stuck 0 = .ok (.aload_n 0, 1) := by decide +kernel
theorem dX12_stuck_1 : decode cX12_stuck 1 = .ok (.iconst 0, 1) := by decide +kernel
theorem dX12_stuck_2 : decode cX12_stuck 2 = .ok (.putfield 73, 3) := by decide +kernel
theorem dX12_stuck_5 : decode cX12_stuck 5 = .ok (.iconst 0, 1) := by decide +kernel
theorem dX12_stuck_6 : decode cX12_stuck 6 = .ok (.istore_n 1, 1) := by decide +kernel
theorem dX12_stuck_7 : decode cX12_stuck 7 = .ok (.iconst 0, 1) := by decide +kernel
theorem dX12_stuck_8 : decode cX12_stuck 8 = .ok (.istore_n 2, 1) := by decide +kernel
theorem dX12_stuck_9 : decode cX12_stuck 9 = .ok (.iload_n 2, 1) := by decide +kernel
theorem dX12_stuck_10 : decode cX12_stuck 10 = .ok (.iconst 3, 1) := by decide +kernel
theorem dX12_stuck_11 : decode cX12_stuck 11 = .ok (.aload_n 0, 1) := by decide +kernel
theorem dX12_stuck_12 : decode cX12_stuck 12 = .ok (.getfield 77, 3) := by decide +kernel
theorem dX12_stuck_15 : decode cX12_stuck 15 = .ok (.imul, 1) := by decide +kernel
theorem dX12_stuck_16 : decode cX12_stuck 16 = .ok (.if_icmp .ge 104, 3) := by decide +kernel
theorem dX12_stuck_19 : decode cX12_stuck 19 = .ok (.iload_n 2, 1) := by decide +kernel
theorem dX12_stuck_20 : decode cX12_stuck 20 = .ok (.iconst 3, 1) := by decide +kernel
theorem dX12_stuck_21 : decode cX12_stuck 21 = .ok (.idiv, 1) := by decide +kernel
theorem dX12_stuck_22 : decode cX12_stuck 22 = .ok (.istore_n 3, 1) := by decide +kernel
theorem dX12_stuck_23 : decode cX12_stuck 23 = .ok (.iload_n 2, 1) := by decide +kernel
theorem dX12_stuck_24 : decode cX12_stuck 24 = .ok (.iconst 3, 1) := by decide +kernel
theorem dX12_stuck_25 : decode cX12_stuck 25 = .ok (.irem, 1) := by decide +kernel
theorem dX12_stuck_26 : decode cX12_stuck 26 = .ok (.istore 4, 2) := by decide +kernel
theorem dX12_stuck_28 : decode cX12_stuck 28 = .ok (.aload_n 0, 1) := by decide +kernel
theorem dX12_stuck_29 : decode cX12_stuck 29 = .ok (.iload_n 3, 1) := by decide +kernel
theorem dX12_stuck_30 : decode cX12_stuck 30 = .ok (.iload 4, 2) := by decide +kernel
theorem dX12_stuck_32 : decode cX12_stuck 32 = .ok (.invokevirtual 104, 3) := by decide +kernel
theorem dX12_stuck_35 : decode cX12_stuck 35 = .ok (.ifCond .ne 7, 3) := by decide +kernel
theorem dX12_stuck_38 : decode cX12_stuck 38 = .ok (.iconst 1, 1) := by decide +kernel
theorem dX12_stuck_39 : decode cX12_stuck 39 = .ok (.goto 4, 3) := by decide +kernel
theorem dX12_stuck_42 : decode cX12_stuck 42 = .ok (.iconst 0, 1) := by decide +kernel
theorem dX12_stuck_43 : decode cX12_stuck 43 = .ok (.istore 5, 2) := by decide +kernel
theorem dX12_stuck_45 : decode cX12_stuck 45 = .ok (.iconst 0, 1) := by decide +kernel
theorem dX12_stuck_46 : decode cX12_stuck 46 = .ok (.istore 6, 2) := by decide +kernel
theorem dX12_stuck_48 : decode cX12_stuck 48 = .ok (.iload 6, 2) := by decide +kernel
theorem dX12_stuck_50 : decode cX12_stuck 50 = .ok (.aload_n 0, 1) := by decide +kernel
theorem dX12_stuck_51 : decode cX12_stuck 51 = .ok (.getfield 77, 3) := by decide +kernel
theorem dX12_stuck_54 : decode cX12_stuck 54 = .ok (.if_icmp .ge 42, 3) := by decide +kernel
theorem dX12_stuck_57 : decode cX12_stuck 57 = .ok (.iload 5, 2) := by decide +kernel
theorem dX12_stuck_59 : decode cX12_stuck 59 = .ok (.ifCond .eq 37, 3) := by decide +kernel
theorem dX12_stuck_62 : decode cX12_stuck 62 = .ok (.aload_n 0, 1) := by decide +kernel
theorem dX12_stuck_63 : decode cX12_stuck 63 = .ok (.iload 6, 2) := by decide +kernel
theorem dX12_stuck_65 : decode cX12_stuck 65 = .ok (.iload 4, 2) := by decide +kernel
theorem dX12_stuck_67 : decode cX12_stuck 67 = .ok (.invokevirtual 104, 3) := by decide +kernel
theorem dX12_stuck_70 : decode cX12_stuck 70 = .ok (.ifCond .eq 13, 3) := by decide +kernel
theorem dX12_stuck_73 : decode cX12_stuck 73 = .ok (.aload_n 0, 1) := by decide +kernel
theorem dX12_stuck_74 : decode cX12_stuck 74 = .ok (.iload_n 3, 1) := by decide +kernel
theorem dX12_stuck_75 : decode cX12_stuck 75 = .ok (.iload 6, 2) := by decide +kernel
theorem dX12_stuck_77 : decode cX12_stuck 77 = .ok (.invokevirtual 100, 3) := by decide +kernel
theorem dX12_stuck_80 : decode cX12_stuck 80 = .ok (.ifCond .ne 7, 3) := by decide +kernel
theorem dX12_stuck_83 : decode cX12_stuck 83 = .ok (.iconst 1, 1) := by decide +kernel
theorem dX12_stuck_84 : decode cX12_stuck 84 = .ok (.goto 4, 3) := by decide +kernel
theorem dX12_stuck_87 : decode cX12_stuck 87 = .ok (.iconst 0, 1) := by decide +kernel
theorem dX12_stuck_88 : decode cX12_stuck 88 = .ok (.istore 5, 2) := by decide +kernel
theorem dX12_stuck_90 : decode cX12_stuck 90 = .ok (.iinc 6 1, 3) := by decide +kernel
theorem dX12_stuck_93 : decode cX12_stuck 93 = .ok (.goto (-45), 3) := by decide +kernel
theorem dX12_stuck_96 : decode cX12_stuck 96 = .ok (.iload_n 1, 1) := by decide +kernel
theorem dX12_stuck_97 : decode cX12_stuck 97 = .ok (.iload 5, 2) := by decide +kernel
theorem dX12_stuck_99 : decode cX12_stuck 99 = .ok (.ifCond .eq 12, 3) := by decide +kernel
theorem dX12_stuck_102 : decode cX12_stuck 102 = .ok (.aload_n 0, 1) := by decide +kernel
theorem dX12_stuck_103 : decode cX12_stuck 103 = .ok (.getfield 34, 3) := by decide +kernel
theorem dX12_stuck_106 : decode cX12_stuck 106 = .ok (.iload_n 2, 1) := by decide +kernel
theorem dX12_stuck_107 : decode cX12_stuck 107 = .ok (.iaload, 1) := by decide +kernel
theorem dX12_stuck_108 : decode cX12_stuck 108 = .ok (.goto 4, 3) := by decide +kernel
theorem dX12_stuck_111 : decode cX12_stuck 111 = .ok (.iconst 0, 1) := by decide +kernel
theorem dX12_stuck_112 : decode cX12_stuck 112 = .ok (.iadd, 1) := by decide +kernel
theorem dX12_stuck_113 : decode cX12_stuck 113 = .ok (.istore_n 1, 1) := by decide +kernel
theorem dX12_stuck_114 : decode cX12_stuck 114 = .ok (.iinc 2 1, 3) := by decide +kernel
theorem dX12_stuck_117 : decode cX12_stuck 117 = .ok (.goto (-108), 3) := by decide +kernel
theorem dX12_stuck_120 : decode cX12_stuck 120 = .ok (.iload_n 1, 1) := by decide +kernel
theorem dX12_stuck_121 : decode cX12_stuck 121 = .ok (.ireturn, 1) := by decide +kernel
theorem dX12_mostOf_0 : decode cX12_mostOf 0 = .ok (.iconst (-1), 1) := by decide +kernel
theorem dX12_mostOf_1 : decode cX12_mostOf 1 = .ok (.istore_n 2, 1) := by decide +kernel
theorem dX12_mostOf_2 : decode cX12_mostOf 2 = .ok (.iconst 0, 1) := by decide +kernel
theorem dX12_mostOf_3 : decode cX12_mostOf 3 = .ok (.istore_n 3, 1) := by decide +kernel
theorem dX12_mostOf_4 : decode cX12_mostOf 4 = .ok (.iload_n 3, 1) := by decide +kernel
theorem dX12_mostOf_5 : decode cX12_mostOf 5 = .ok (.iconst 1, 1) := by decide +kernel
theorem dX12_mostOf_6 : decode cX12_mostOf 6 = .ok (.aload_n 0, 1) := by decide +kernel
theorem dX12_mostOf_7 : decode cX12_mostOf 7 = .ok (.getfield 77, 3) := by decide +kernel
theorem dX12_mostOf_10 : decode cX12_mostOf 10 = .ok (.ishl, 1) := by decide +kernel
theorem dX12_mostOf_11 : decode cX12_mostOf 11 = .ok (.if_icmp .ge 188, 3) := by decide +kernel
theorem dX12_mostOf_14 : decode cX12_mostOf 14 = .ok (.iconst 0, 1) := by decide +kernel
theorem dX12_mostOf_15 : decode cX12_mostOf 15 = .ok (.istore 4, 2) := by decide +kernel
theorem dX12_mostOf_17 : decode cX12_mostOf 17 = .ok (.iconst 0, 1) := by decide +kernel
theorem dX12_mostOf_18 : decode cX12_mostOf 18 = .ok (.istore 5, 2) := by decide +kernel
theorem dX12_mostOf_20 : decode cX12_mostOf 20 = .ok (.iload 5, 2) := by decide +kernel
theorem dX12_mostOf_22 : decode cX12_mostOf 22 = .ok (.aload_n 0, 1) := by decide +kernel
theorem dX12_mostOf_23 : decode cX12_mostOf 23 = .ok (.getfield 77, 3) := by decide +kernel
theorem dX12_mostOf_26 : decode cX12_mostOf 26 = .ok (.if_icmp .ge 150, 3) := by decide +kernel
theorem dX12_mostOf_29 : decode cX12_mostOf 29 = .ok (.aload_n 0, 1) := by decide +kernel
theorem dX12_mostOf_30 : decode cX12_mostOf 30 = .ok (.iload 5, 2) := by decide +kernel
theorem dX12_mostOf_32 : decode cX12_mostOf 32 = .ok (.iload_n 1, 1) := by decide +kernel
theorem dX12_mostOf_33 : decode cX12_mostOf 33 = .ok (.invokevirtual 104, 3) := by decide +kernel
theorem dX12_mostOf_36 : decode cX12_mostOf 36 = .ok (.ifCond .ne 7, 3) := by decide +kernel
theorem dX12_mostOf_39 : decode cX12_mostOf 39 = .ok (.iconst 1, 1) := by decide +kernel
theorem dX12_mostOf_40 : decode cX12_mostOf 40 = .ok (.goto 4, 3) := by decide +kernel
theorem dX12_mostOf_43 : decode cX12_mostOf 43 = .ok (.iconst 0, 1) := by decide +kernel
theorem dX12_mostOf_44 : decode cX12_mostOf 44 = .ok (.istore 6, 2) := by decide +kernel
theorem dX12_mostOf_46 : decode cX12_mostOf 46 = .ok (.iload 4, 2) := by decide +kernel
theorem dX12_mostOf_48 : decode cX12_mostOf 48 = .ok (.iload 6, 2) := by decide +kernel
theorem dX12_mostOf_50 : decode cX12_mostOf 50 = .ok (.ifCond .eq 26, 3) := by decide +kernel
theorem dX12_mostOf_53 : decode cX12_mostOf 53 = .ok (.iload_n 3, 1) := by decide +kernel
theorem dX12_mostOf_54 : decode cX12_mostOf 54 = .ok (.iload 5, 2) := by decide +kernel
theorem dX12_mostOf_56 : decode cX12_mostOf 56 = .ok (.ishr, 1) := by decide +kernel
theorem dX12_mostOf_57 : decode cX12_mostOf 57 = .ok (.iconst 1, 1) := by decide +kernel
theorem dX12_mostOf_58 : decode cX12_mostOf 58 = .ok (.iand, 1) := by decide +kernel
theorem dX12_mostOf_59 : decode cX12_mostOf 59 = .ok (.ifCond .ne 17, 3) := by decide +kernel
theorem dX12_mostOf_62 : decode cX12_mostOf 62 = .ok (.aload_n 0, 1) := by decide +kernel
theorem dX12_mostOf_63 : decode cX12_mostOf 63 = .ok (.getfield 34, 3) := by decide +kernel
theorem dX12_mostOf_66 : decode cX12_mostOf 66 = .ok (.iconst 3, 1) := by decide +kernel
theorem dX12_mostOf_67 : decode cX12_mostOf 67 = .ok (.iload 5, 2) := by decide +kernel
theorem dX12_mostOf_69 : decode cX12_mostOf 69 = .ok (.imul, 1) := by decide +kernel
theorem dX12_mostOf_70 : decode cX12_mostOf 70 = .ok (.iload_n 1, 1) := by decide +kernel
theorem dX12_mostOf_71 : decode cX12_mostOf 71 = .ok (.iadd, 1) := by decide +kernel
theorem dX12_mostOf_72 : decode cX12_mostOf 72 = .ok (.iaload, 1) := by decide +kernel
theorem dX12_mostOf_73 : decode cX12_mostOf 73 = .ok (.goto 4, 3) := by decide +kernel
theorem dX12_mostOf_76 : decode cX12_mostOf 76 = .ok (.iconst 0, 1) := by decide +kernel
theorem dX12_mostOf_77 : decode cX12_mostOf 77 = .ok (.iadd, 1) := by decide +kernel
theorem dX12_mostOf_78 : decode cX12_mostOf 78 = .ok (.istore 4, 2) := by decide +kernel
theorem dX12_mostOf_80 : decode cX12_mostOf 80 = .ok (.iconst 0, 1) := by decide +kernel
theorem dX12_mostOf_81 : decode cX12_mostOf 81 = .ok (.istore 7, 2) := by decide +kernel
theorem dX12_mostOf_83 : decode cX12_mostOf 83 = .ok (.iconst 0, 1) := by decide +kernel
theorem dX12_mostOf_84 : decode cX12_mostOf 84 = .ok (.istore 8, 2) := by decide +kernel
theorem dX12_mostOf_86 : decode cX12_mostOf 86 = .ok (.iload 8, 2) := by decide +kernel
theorem dX12_mostOf_88 : decode cX12_mostOf 88 = .ok (.aload_n 0, 1) := by decide +kernel
theorem dX12_mostOf_89 : decode cX12_mostOf 89 = .ok (.getfield 77, 3) := by decide +kernel
theorem dX12_mostOf_92 : decode cX12_mostOf 92 = .ok (.if_icmp .ge 57, 3) := by decide +kernel
theorem dX12_mostOf_95 : decode cX12_mostOf 95 = .ok (.iload 6, 2) := by decide +kernel
theorem dX12_mostOf_97 : decode cX12_mostOf 97 = .ok (.ifCond .ne 52, 3) := by decide +kernel
theorem dX12_mostOf_100 : decode cX12_mostOf 100 = .ok (.iload 7, 2) := by decide +kernel
theorem dX12_mostOf_102 : decode cX12_mostOf 102 = .ok (.ifCond .ne 34, 3) := by decide +kernel
theorem dX12_mostOf_105 : decode cX12_mostOf 105 = .ok (.iload_n 3, 1) := by decide +kernel
theorem dX12_mostOf_106 : decode cX12_mostOf 106 = .ok (.iload 8, 2) := by decide +kernel
theorem dX12_mostOf_108 : decode cX12_mostOf 108 = .ok (.ishr, 1) := by decide +kernel
theorem dX12_mostOf_109 : decode cX12_mostOf 109 = .ok (.iconst 1, 1) := by decide +kernel
theorem dX12_mostOf_110 : decode cX12_mostOf 110 = .ok (.iand, 1) := by decide +kernel
theorem dX12_mostOf_111 : decode cX12_mostOf 111 = .ok (.iconst 1, 1) := by decide +kernel
theorem dX12_mostOf_112 : decode cX12_mostOf 112 = .ok (.if_icmp .ne 28, 3) := by decide +kernel
theorem dX12_mostOf_115 : decode cX12_mostOf 115 = .ok (.aload_n 0, 1) := by decide +kernel
theorem dX12_mostOf_116 : decode cX12_mostOf 116 = .ok (.iload 8, 2) := by decide +kernel
theorem dX12_mostOf_118 : decode cX12_mostOf 118 = .ok (.iload_n 1, 1) := by decide +kernel
theorem dX12_mostOf_119 : decode cX12_mostOf 119 = .ok (.invokevirtual 104, 3) := by decide +kernel
theorem dX12_mostOf_122 : decode cX12_mostOf 122 = .ok (.ifCond .ne 18, 3) := by decide +kernel
theorem dX12_mostOf_125 : decode cX12_mostOf 125 = .ok (.aload_n 0, 1) := by decide +kernel
theorem dX12_mostOf_126 : decode cX12_mostOf 126 = .ok (.iload 8, 2) := by decide +kernel
theorem dX12_mostOf_128 : decode cX12_mostOf 128 = .ok (.iload 5, 2) := by decide +kernel
theorem dX12_mostOf_130 : decode cX12_mostOf 130 = .ok (.invokevirtual 100, 3) := by decide +kernel
theorem dX12_mostOf_133 : decode cX12_mostOf 133 = .ok (.ifCond .eq 7, 3) := by decide +kernel
theorem dX12_mostOf_136 : decode cX12_mostOf 136 = .ok (.iconst 1, 1) := by decide +kernel
theorem dX12_mostOf_137 : decode cX12_mostOf 137 = .ok (.goto 4, 3) := by decide +kernel
theorem dX12_mostOf_140 : decode cX12_mostOf 140 = .ok (.iconst 0, 1) := by decide +kernel
theorem dX12_mostOf_141 : decode cX12_mostOf 141 = .ok (.istore 7, 2) := by decide +kernel
theorem dX12_mostOf_143 : decode cX12_mostOf 143 = .ok (.iinc 8 1, 3) := by decide +kernel
theorem dX12_mostOf_146 : decode cX12_mostOf 146 = .ok (.goto (-60), 3) := by decide +kernel
theorem dX12_mostOf_149 : decode cX12_mostOf 149 = .ok (.iload 4, 2) := by decide +kernel
theorem dX12_mostOf_151 : decode cX12_mostOf 151 = .ok (.iload 7, 2) := by decide +kernel
theorem dX12_mostOf_153 : decode cX12_mostOf 153 = .ok (.ifCond .eq 13, 3) := by decide +kernel
theorem dX12_mostOf_156 : decode cX12_mostOf 156 = .ok (.aload_n 0, 1) := by decide +kernel
theorem dX12_mostOf_157 : decode cX12_mostOf 157 = .ok (.getfield 28, 3) := by decide +kernel
theorem dX12_mostOf_160 : decode cX12_mostOf 160 = .ok (.iload 5, 2) := by decide +kernel
theorem dX12_mostOf_162 : decode cX12_mostOf 162 = .ok (.iaload, 1) := by decide +kernel
theorem dX12_mostOf_163 : decode cX12_mostOf 163 = .ok (.goto 4, 3) := by decide +kernel
theorem dX12_mostOf_166 : decode cX12_mostOf 166 = .ok (.iconst 0, 1) := by decide +kernel
theorem dX12_mostOf_167 : decode cX12_mostOf 167 = .ok (.iadd, 1) := by decide +kernel
theorem dX12_mostOf_168 : decode cX12_mostOf 168 = .ok (.istore 4, 2) := by decide +kernel
theorem dX12_mostOf_170 : decode cX12_mostOf 170 = .ok (.iinc 5 1, 3) := by decide +kernel
theorem dX12_mostOf_173 : decode cX12_mostOf 173 = .ok (.goto (-153), 3) := by decide +kernel
theorem dX12_mostOf_176 : decode cX12_mostOf 176 = .ok (.iload_n 2, 1) := by decide +kernel
theorem dX12_mostOf_177 : decode cX12_mostOf 177 = .ok (.ifCond .lt 9, 3) := by decide +kernel
theorem dX12_mostOf_180 : decode cX12_mostOf 180 = .ok (.iload 4, 2) := by decide +kernel
theorem dX12_mostOf_182 : decode cX12_mostOf 182 = .ok (.iload_n 2, 1) := by decide +kernel
theorem dX12_mostOf_183 : decode cX12_mostOf 183 = .ok (.if_icmp .ge 8, 3) := by decide +kernel
theorem dX12_mostOf_186 : decode cX12_mostOf 186 = .ok (.iload 4, 2) := by decide +kernel
theorem dX12_mostOf_188 : decode cX12_mostOf 188 = .ok (.goto 4, 3) := by decide +kernel
theorem dX12_mostOf_191 : decode cX12_mostOf 191 = .ok (.iload_n 2, 1) := by decide +kernel
theorem dX12_mostOf_192 : decode cX12_mostOf 192 = .ok (.istore_n 2, 1) := by decide +kernel
theorem dX12_mostOf_193 : decode cX12_mostOf 193 = .ok (.iinc 3 1, 3) := by decide +kernel
theorem dX12_mostOf_196 : decode cX12_mostOf 196 = .ok (.goto (-192), 3) := by decide +kernel
theorem dX12_mostOf_199 : decode cX12_mostOf 199 = .ok (.iload_n 2, 1) := by decide +kernel
theorem dX12_mostOf_200 : decode cX12_mostOf 200 = .ok (.ireturn, 1) := by decide +kernel
theorem dX12_most_0 : decode cX12_most 0 = .ok (.aload_n 0, 1) := by decide +kernel
theorem dX12_most_1 : decode cX12_most 1 = .ok (.iconst 0, 1) := by decide +kernel
theorem dX12_most_2 : decode cX12_most 2 = .ok (.putfield 73, 3) := by decide +kernel
theorem dX12_most_5 : decode cX12_most 5 = .ok (.iload_n 1, 1) := by decide +kernel
theorem dX12_most_6 : decode cX12_most 6 = .ok (.invokestatic 210, 3) := by decide +kernel
theorem dX12_most_9 : decode cX12_most 9 = .ok (.ifCond .eq 11, 3) := by decide +kernel
theorem dX12_most_12 : decode cX12_most 12 = .ok (.aload_n 0, 1) := by decide +kernel
theorem dX12_most_13 : decode cX12_most 13 = .ok (.iload_n 1, 1) := by decide +kernel
theorem dX12_most_14 : decode cX12_most 14 = .ok (.invokevirtual 225, 3) := by decide +kernel
theorem dX12_most_17 : decode cX12_most 17 = .ok (.goto 8, 3) := by decide +kernel
theorem dX12_most_20 : decode cX12_most 20 = .ok (.aload_n 0, 1) := by decide +kernel
theorem dX12_most_21 : decode cX12_most 21 = .ok (.iconst (-1), 1) := by decide +kernel
theorem dX12_most_22 : decode cX12_most 22 = .ok (.invokevirtual 163, 3) := by decide +kernel
theorem dX12_most_25 : decode cX12_most 25 = .ok (.ireturn, 1) := by decide +kernel
theorem dX12_cellar_0 : decode cX12_cellar 0 = .ok (.aload_n 0, 1) := by decide +kernel
theorem dX12_cellar_1 : decode cX12_cellar 1 = .ok (.iconst 0, 1) := by decide +kernel
theorem dX12_cellar_2 : decode cX12_cellar 2 = .ok (.putfield 73, 3) := by decide +kernel
theorem dX12_cellar_5 : decode cX12_cellar 5 = .ok (.aload_n 0, 1) := by decide +kernel
theorem dX12_cellar_6 : decode cX12_cellar 6 = .ok (.iload_n 1, 1) := by decide +kernel
theorem dX12_cellar_7 : decode cX12_cellar 7 = .ok (.invokevirtual 84, 3) := by decide +kernel
theorem dX12_cellar_10 : decode cX12_cellar 10 = .ok (.ifCond .eq 10, 3) := by decide +kernel
theorem dX12_cellar_13 : decode cX12_cellar 13 = .ok (.iload_n 2, 1) := by decide +kernel
theorem dX12_cellar_14 : decode cX12_cellar 14 = .ok (.invokestatic 210, 3) := by decide +kernel
theorem dX12_cellar_17 : decode cX12_cellar 17 = .ok (.ifCond .ne 7, 3) := by decide +kernel
theorem dX12_cellar_20 : decode cX12_cellar 20 = .ok (.iconst (-1), 1) := by decide +kernel
theorem dX12_cellar_21 : decode cX12_cellar 21 = .ok (.goto 24, 3) := by decide +kernel
theorem dX12_cellar_24 : decode cX12_cellar 24 = .ok (.iload_n 3, 1) := by decide +kernel
theorem dX12_cellar_25 : decode cX12_cellar 25 = .ok (.ifCond .ge 8, 3) := by decide +kernel
theorem dX12_cellar_28 : decode cX12_cellar 28 = .ok (.bipush (-4), 2) := by decide +kernel
theorem dX12_cellar_30 : decode cX12_cellar 30 = .ok (.goto 15, 3) := by decide +kernel
theorem dX12_cellar_33 : decode cX12_cellar 33 = .ok (.iload_n 3, 1) := by decide +kernel
theorem dX12_cellar_34 : decode cX12_cellar 34 = .ok (.bipush 9, 2) := by decide +kernel
theorem dX12_cellar_36 : decode cX12_cellar 36 = .ok (.if_icmp .le 8, 3) := by decide +kernel
theorem dX12_cellar_39 : decode cX12_cellar 39 = .ok (.bipush (-6), 2) := by decide +kernel
theorem dX12_cellar_41 : decode cX12_cellar 41 = .ok (.goto 4, 3) := by decide +kernel
theorem dX12_cellar_44 : decode cX12_cellar 44 = .ok (.iconst 0, 1) := by decide +kernel
theorem dX12_cellar_45 : decode cX12_cellar 45 = .ok (.istore 4, 2) := by decide +kernel
theorem dX12_cellar_47 : decode cX12_cellar 47 = .ok (.iload 4, 2) := by decide +kernel
theorem dX12_cellar_49 : decode cX12_cellar 49 = .ok (.ifCond .ge 13, 3) := by decide +kernel
theorem dX12_cellar_52 : decode cX12_cellar 52 = .ok (.ldc 228, 2) := by decide +kernel
theorem dX12_cellar_54 : decode cX12_cellar 54 = .ok (.aload_n 0, 1) := by decide +kernel
theorem dX12_cellar_55 : decode cX12_cellar 55 = .ok (.iload 4, 2) := by decide +kernel
theorem dX12_cellar_57 : decode cX12_cellar 57 = .ok (.invokevirtual 163, 3) := by decide +kernel
theorem dX12_cellar_60 : decode cX12_cellar 60 = .ok (.isub, 1) := by decide +kernel
theorem dX12_cellar_61 : decode cX12_cellar 61 = .ok (.ireturn, 1) := by decide +kernel
theorem dX12_cellar_62 : decode cX12_cellar 62 = .ok (.aload_n 0, 1) := by decide +kernel
theorem dX12_cellar_63 : decode cX12_cellar 63 = .ok (.iload_n 2, 1) := by decide +kernel
theorem dX12_cellar_64 : decode cX12_cellar 64 = .ok (.invokevirtual 225, 3) := by decide +kernel
theorem dX12_cellar_67 : decode cX12_cellar 67 = .ok (.istore 5, 2) := by decide +kernel
theorem dX12_cellar_69 : decode cX12_cellar 69 = .ok (.aload_n 0, 1) := by decide +kernel
theorem dX12_cellar_70 : decode cX12_cellar 70 = .ok (.getfield 7, 3) := by decide +kernel
theorem dX12_cellar_73 : decode cX12_cellar 73 = .ok (.iload_n 1, 1) := by decide +kernel
theorem dX12_cellar_74 : decode cX12_cellar 74 = .ok (.iaload, 1) := by decide +kernel
theorem dX12_cellar_75 : decode cX12_cellar 75 = .ok (.istore 6, 2) := by decide +kernel
theorem dX12_cellar_77 : decode cX12_cellar 77 = .ok (.aload_n 0, 1) := by decide +kernel
theorem dX12_cellar_78 : decode cX12_cellar 78 = .ok (.getfield 13, 3) := by decide +kernel
theorem dX12_cellar_81 : decode cX12_cellar 81 = .ok (.iload_n 1, 1) := by decide +kernel
theorem dX12_cellar_82 : decode cX12_cellar 82 = .ok (.iaload, 1) := by decide +kernel
theorem dX12_cellar_83 : decode cX12_cellar 83 = .ok (.istore 7, 2) := by decide +kernel
theorem dX12_cellar_85 : decode cX12_cellar 85 = .ok (.aload_n 0, 1) := by decide +kernel
theorem dX12_cellar_86 : decode cX12_cellar 86 = .ok (.getfield 7, 3) := by decide +kernel
theorem dX12_cellar_89 : decode cX12_cellar 89 = .ok (.iload_n 1, 1) := by decide +kernel
theorem dX12_cellar_90 : decode cX12_cellar 90 = .ok (.iconst 1, 1) := by decide +kernel
theorem dX12_cellar_91 : decode cX12_cellar 91 = .ok (.iastore, 1) := by decide +kernel
theorem dX12_cellar_92 : decode cX12_cellar 92 = .ok (.aload_n 0, 1) := by decide +kernel
theorem dX12_cellar_93 : decode cX12_cellar 93 = .ok (.getfield 13, 3) := by decide +kernel
theorem dX12_cellar_96 : decode cX12_cellar 96 = .ok (.iload_n 1, 1) := by decide +kernel
theorem dX12_cellar_97 : decode cX12_cellar 97 = .ok (.iload_n 3, 1) := by decide +kernel
theorem dX12_cellar_98 : decode cX12_cellar 98 = .ok (.iastore, 1) := by decide +kernel
theorem dX12_cellar_99 : decode cX12_cellar 99 = .ok (.aload_n 0, 1) := by decide +kernel
theorem dX12_cellar_100 : decode cX12_cellar 100 = .ok (.iload_n 2, 1) := by decide +kernel
theorem dX12_cellar_101 : decode cX12_cellar 101 = .ok (.invokevirtual 225, 3) := by decide +kernel
theorem dX12_cellar_104 : decode cX12_cellar 104 = .ok (.istore 8, 2) := by decide +kernel
theorem dX12_cellar_106 : decode cX12_cellar 106 = .ok (.aload_n 0, 1) := by decide +kernel
theorem dX12_cellar_107 : decode cX12_cellar 107 = .ok (.getfield 7, 3) := by decide +kernel
theorem dX12_cellar_110 : decode cX12_cellar 110 = .ok (.iload_n 1, 1) := by decide +kernel
theorem dX12_cellar_111 : decode cX12_cellar 111 = .ok (.iload 6, 2) := by decide +kernel
theorem dX12_cellar_113 : decode cX12_cellar 113 = .ok (.iastore, 1) := by decide +kernel
theorem dX12_cellar_114 : decode cX12_cellar 114 = .ok (.aload_n 0, 1) := by decide +kernel
theorem dX12_cellar_115 : decode cX12_cellar 115 = .ok (.getfield 13, 3) := by decide +kernel
theorem dX12_cellar_118 : decode cX12_cellar 118 = .ok (.iload_n 1, 1) := by decide +kernel
theorem dX12_cellar_119 : decode cX12_cellar 119 = .ok (.iload 7, 2) := by decide +kernel
theorem dX12_cellar_121 : decode cX12_cellar 121 = .ok (.iastore, 1) := by decide +kernel
theorem dX12_cellar_122 : decode cX12_cellar 122 = .ok (.iload 8, 2) := by decide +kernel
theorem dX12_cellar_124 : decode cX12_cellar 124 = .ok (.iload 5, 2) := by decide +kernel
theorem dX12_cellar_126 : decode cX12_cellar 126 = .ok (.isub, 1) := by decide +kernel
theorem dX12_cellar_127 : decode cX12_cellar 127 = .ok (.ireturn, 1) := by decide +kernel
theorem dX12_isPath_0 : decode cX12_isPath 0 = .ok (.iconst 1, 1) := by decide +kernel
theorem dX12_isPath_1 : decode cX12_isPath 1 = .ok (.iload_n 1, 1) := by decide +kernel
theorem dX12_isPath_2 : decode cX12_isPath 2 = .ok (.ishl, 1) := by decide +kernel
theorem dX12_isPath_3 : decode cX12_isPath 3 = .ok (.iconst 1, 1) := by decide +kernel
theorem dX12_isPath_4 : decode cX12_isPath 4 = .ok (.iload_n 2, 1) := by decide +kernel
theorem dX12_isPath_5 : decode cX12_isPath 5 = .ok (.ishl, 1) := by decide +kernel
theorem dX12_isPath_6 : decode cX12_isPath 6 = .ok (.ior, 1) := by decide +kernel
theorem dX12_isPath_7 : decode cX12_isPath 7 = .ok (.istore 5, 2) := by decide +kernel
theorem dX12_isPath_9 : decode cX12_isPath 9 = .ok (.iload_n 1, 1) := by decide +kernel
theorem dX12_isPath_10 : decode cX12_isPath 10 = .ok (.istore 6, 2) := by decide +kernel
theorem dX12_isPath_12 : decode cX12_isPath 12 = .ok (.iload 4, 2) := by decide +kernel
theorem dX12_isPath_14 : decode cX12_isPath 14 = .ok (.istore 7, 2) := by decide +kernel
theorem dX12_isPath_16 : decode cX12_isPath 16 = .ok (.iconst 1, 1) := by decide +kernel
theorem dX12_isPath_17 : decode cX12_isPath 17 = .ok (.istore 8, 2) := by decide +kernel
theorem dX12_isPath_19 : decode cX12_isPath 19 = .ok (.iconst 0, 1) := by decide +kernel
theorem dX12_isPath_20 : decode cX12_isPath 20 = .ok (.istore 9, 2) := by decide +kernel
theorem dX12_isPath_22 : decode cX12_isPath 22 = .ok (.iload 9, 2) := by decide +kernel
theorem dX12_isPath_24 : decode cX12_isPath 24 = .ok (.iload_n 3, 1) := by decide +kernel
theorem dX12_isPath_25 : decode cX12_isPath 25 = .ok (.if_icmp .ge 73, 3) := by decide +kernel
theorem dX12_isPath_28 : decode cX12_isPath 28 = .ok (.iload 8, 2) := by decide +kernel
theorem dX12_isPath_30 : decode cX12_isPath 30 = .ok (.ifCond .eq 68, 3) := by decide +kernel
theorem dX12_isPath_33 : decode cX12_isPath 33 = .ok (.iload 7, 2) := by decide +kernel
theorem dX12_isPath_35 : decode cX12_isPath 35 = .ok (.aload_n 0, 1) := by decide +kernel
theorem dX12_isPath_36 : decode cX12_isPath 36 = .ok (.getfield 77, 3) := by decide +kernel
theorem dX12_isPath_39 : decode cX12_isPath 39 = .ok (.irem, 1) := by decide +kernel
theorem dX12_isPath_40 : decode cX12_isPath 40 = .ok (.istore 10, 2) := by decide +kernel
theorem dX12_isPath_42 : decode cX12_isPath 42 = .ok (.iload 7, 2) := by decide +kernel
theorem dX12_isPath_44 : decode cX12_isPath 44 = .ok (.aload_n 0, 1) := by decide +kernel
theorem dX12_isPath_45 : decode cX12_isPath 45 = .ok (.getfield 77, 3) := by decide +kernel
theorem dX12_isPath_48 : decode cX12_isPath 48 = .ok (.idiv, 1) := by decide +kernel
theorem dX12_isPath_49 : decode cX12_isPath 49 = .ok (.istore 7, 2) := by decide +kernel
theorem dX12_isPath_51 : decode cX12_isPath 51 = .ok (.iload 5, 2) := by decide +kernel
theorem dX12_isPath_53 : decode cX12_isPath 53 = .ok (.iload 10, 2) := by decide +kernel
theorem dX12_isPath_55 : decode cX12_isPath 55 = .ok (.ishr, 1) := by decide +kernel
theorem dX12_isPath_56 : decode cX12_isPath 56 = .ok (.iconst 1, 1) := by decide +kernel
theorem dX12_isPath_57 : decode cX12_isPath 57 = .ok (.iand, 1) := by decide +kernel
theorem dX12_isPath_58 : decode cX12_isPath 58 = .ok (.ifCond .ne 18, 3) := by decide +kernel
theorem dX12_isPath_61 : decode cX12_isPath 61 = .ok (.aload_n 0, 1) := by decide +kernel
theorem dX12_isPath_62 : decode cX12_isPath 62 = .ok (.iload 6, 2) := by decide +kernel
theorem dX12_isPath_64 : decode cX12_isPath 64 = .ok (.iload 10, 2) := by decide +kernel
theorem dX12_isPath_66 : decode cX12_isPath 66 = .ok (.invokevirtual 100, 3) := by decide +kernel
theorem dX12_isPath_69 : decode cX12_isPath 69 = .ok (.ifCond .eq 7, 3) := by decide +kernel
theorem dX12_isPath_72 : decode cX12_isPath 72 = .ok (.iconst 1, 1) := by decide +kernel
theorem dX12_isPath_73 : decode cX12_isPath 73 = .ok (.goto 4, 3) := by decide +kernel
theorem dX12_isPath_76 : decode cX12_isPath 76 = .ok (.iconst 0, 1) := by decide +kernel
theorem dX12_isPath_77 : decode cX12_isPath 77 = .ok (.istore 8, 2) := by decide +kernel
theorem dX12_isPath_79 : decode cX12_isPath 79 = .ok (.iload 5, 2) := by decide +kernel
theorem dX12_isPath_81 : decode cX12_isPath 81 = .ok (.iconst 1, 1) := by decide +kernel
theorem dX12_isPath_82 : decode cX12_isPath 82 = .ok (.iload 10, 2) := by decide +kernel
theorem dX12_isPath_84 : decode cX12_isPath 84 = .ok (.ishl, 1) := by decide +kernel
theorem dX12_isPath_85 : decode cX12_isPath 85 = .ok (.ior, 1) := by decide +kernel
theorem dX12_isPath_86 : decode cX12_isPath 86 = .ok (.istore 5, 2) := by decide +kernel
theorem dX12_isPath_88 : decode cX12_isPath 88 = .ok (.iload 10, 2) := by decide +kernel
theorem dX12_isPath_90 : decode cX12_isPath 90 = .ok (.istore 6, 2) := by decide +kernel
theorem dX12_isPath_92 : decode cX12_isPath 92 = .ok (.iinc 9 1, 3) := by decide +kernel
theorem dX12_isPath_95 : decode cX12_isPath 95 = .ok (.goto (-73), 3) := by decide +kernel
theorem dX12_isPath_98 : decode cX12_isPath 98 = .ok (.iload 8, 2) := by decide +kernel
theorem dX12_isPath_100 : decode cX12_isPath 100 = .ok (.ifCond .eq 17, 3) := by decide +kernel
theorem dX12_isPath_103 : decode cX12_isPath 103 = .ok (.aload_n 0, 1) := by decide +kernel
theorem dX12_isPath_104 : decode cX12_isPath 104 = .ok (.iload 6, 2) := by decide +kernel
theorem dX12_isPath_106 : decode cX12_isPath 106 = .ok (.iload_n 2, 1) := by decide +kernel
theorem dX12_isPath_107 : decode cX12_isPath 107 = .ok (.invokevirtual 100, 3) := by decide +kernel
theorem dX12_isPath_110 : decode cX12_isPath 110 = .ok (.ifCond .eq 7, 3) := by decide +kernel
theorem dX12_isPath_113 : decode cX12_isPath 113 = .ok (.iconst 1, 1) := by decide +kernel
theorem dX12_isPath_114 : decode cX12_isPath 114 = .ok (.goto 4, 3) := by decide +kernel
theorem dX12_isPath_117 : decode cX12_isPath 117 = .ok (.iconst 0, 1) := by decide +kernel
theorem dX12_isPath_118 : decode cX12_isPath 118 = .ok (.ireturn, 1) := by decide +kernel
theorem dX12_paths_0 : decode cX12_paths 0 = .ok (.aload_n 0, 1) := by decide +kernel
theorem dX12_paths_1 : decode cX12_paths 1 = .ok (.iconst 0, 1) := by decide +kernel
theorem dX12_paths_2 : decode cX12_paths 2 = .ok (.putfield 73, 3) := by decide +kernel
theorem dX12_paths_5 : decode cX12_paths 5 = .ok (.aload_n 0, 1) := by decide +kernel
theorem dX12_paths_6 : decode cX12_paths 6 = .ok (.iload_n 1, 1) := by decide +kernel
theorem dX12_paths_7 : decode cX12_paths 7 = .ok (.iload_n 2, 1) := by decide +kernel
theorem dX12_paths_8 : decode cX12_paths 8 = .ok (.invokevirtual 195, 3) := by decide +kernel
theorem dX12_paths_11 : decode cX12_paths 11 = .ok (.ifCond .eq 13, 3) := by decide +kernel
theorem dX12_paths_14 : decode cX12_paths 14 = .ok (.iload_n 3, 1) := by decide +kernel
theorem dX12_paths_15 : decode cX12_paths 15 = .ok (.i2l, 1) := by decide +kernel
theorem dX12_paths_16 : decode cX12_paths 16 = .ok (.lconst 0, 1) := by decide +kernel
theorem dX12_paths_17 : decode cX12_paths 17 = .ok (.lconst 1, 1) := by decide +kernel
theorem dX12_paths_18 : decode cX12_paths 18 = .ok (.invokestatic 80, 3) := by decide +kernel
theorem dX12_paths_21 : decode cX12_paths 21 = .ok (.ifCond .ne 23, 3) := by decide +kernel
theorem dX12_paths_24 : decode cX12_paths 24 = .ok (.aload_n 0, 1) := by decide +kernel
theorem dX12_paths_25 : decode cX12_paths 25 = .ok (.aload_n 0, 1) := by decide +kernel
theorem dX12_paths_26 : decode cX12_paths 26 = .ok (.iload_n 1, 1) := by decide +kernel
theorem dX12_paths_27 : decode cX12_paths 27 = .ok (.iload_n 2, 1) := by decide +kernel
theorem dX12_paths_28 : decode cX12_paths 28 = .ok (.invokevirtual 195, 3) := by decide +kernel
theorem dX12_paths_31 : decode cX12_paths 31 = .ok (.ifCond .eq 8, 3) := by decide +kernel
theorem dX12_paths_34 : decode cX12_paths 34 = .ok (.bipush (-2), 2) := by decide +kernel
theorem dX12_paths_36 : decode cX12_paths 36 = .ok (.goto 4, 3) := by decide +kernel
theorem dX12_paths_39 : decode cX12_paths 39 = .ok (.iconst (-1), 1) := by decide +kernel
theorem dX12_paths_40 : decode cX12_paths 40 = .ok (.invokevirtual 163, 3) := by decide +kernel
theorem dX12_paths_43 : decode cX12_paths 43 = .ok (.ireturn, 1) := by decide +kernel
theorem dX12_paths_44 : decode cX12_paths 44 = .ok (.iconst 0, 1) := by decide +kernel
theorem dX12_paths_45 : decode cX12_paths 45 = .ok (.istore 4, 2) := by decide +kernel
theorem dX12_paths_47 : decode cX12_paths 47 = .ok (.bipush (-9), 2) := by decide +kernel
theorem dX12_paths_49 : decode cX12_paths 49 = .ok (.istore 5, 2) := by decide +kernel
theorem dX12_paths_51 : decode cX12_paths 51 = .ok (.iconst 1, 1) := by decide +kernel
theorem dX12_paths_52 : decode cX12_paths 52 = .ok (.istore 6, 2) := by decide +kernel
theorem dX12_paths_54 : decode cX12_paths 54 = .ok (.iconst 0, 1) := by decide +kernel
theorem dX12_paths_55 : decode cX12_paths 55 = .ok (.istore 7, 2) := by decide +kernel
theorem dX12_paths_57 : decode cX12_paths 57 = .ok (.iload 7, 2) := by decide +kernel
theorem dX12_paths_59 : decode cX12_paths 59 = .ok (.aload_n 0, 1) := by decide +kernel
theorem dX12_paths_60 : decode cX12_paths 60 = .ok (.getfield 77, 3) := by decide +kernel
theorem dX12_paths_63 : decode cX12_paths 63 = .ok (.iconst 1, 1) := by decide +kernel
theorem dX12_paths_64 : decode cX12_paths 64 = .ok (.isub, 1) := by decide +kernel
theorem dX12_paths_65 : decode cX12_paths 65 = .ok (.if_icmp .ge 66, 3) := by decide +kernel
theorem dX12_paths_68 : decode cX12_paths 68 = .ok (.iconst 0, 1) := by decide +kernel
theorem dX12_paths_69 : decode cX12_paths 69 = .ok (.istore 8, 2) := by decide +kernel
theorem dX12_paths_71 : decode cX12_paths 71 = .ok (.iload 8, 2) := by decide +kernel
theorem dX12_paths_73 : decode cX12_paths 73 = .ok (.iload 6, 2) := by decide +kernel
theorem dX12_paths_75 : decode cX12_paths 75 = .ok (.if_icmp .ge 41, 3) := by decide +kernel
theorem dX12_paths_78 : decode cX12_paths 78 = .ok (.aload_n 0, 1) := by decide +kernel
theorem dX12_paths_79 : decode cX12_paths 79 = .ok (.iload_n 1, 1) := by decide +kernel
theorem dX12_paths_80 : decode cX12_paths 80 = .ok (.iload_n 2, 1) := by decide +kernel
theorem dX12_paths_81 : decode cX12_paths 81 = .ok (.iload 7, 2) := by decide +kernel
theorem dX12_paths_83 : decode cX12_paths 83 = .ok (.iload 8, 2) := by decide +kernel
theorem dX12_paths_85 : decode cX12_paths 85 = .ok (.invokevirtual 229, 3) := by decide +kernel
theorem dX12_paths_88 : decode cX12_paths 88 = .ok (.ifCond .eq 22, 3) := by decide +kernel
theorem dX12_paths_91 : decode cX12_paths 91 = .ok (.iinc 4 1, 3) := by decide +kernel
theorem dX12_paths_94 : decode cX12_paths 94 = .ok (.iload 5, 2) := by decide +kernel
theorem dX12_paths_96 : decode cX12_paths 96 = .ok (.ifCond .ge 10, 3) := by decide +kernel
theorem dX12_paths_99 : decode cX12_paths 99 = .ok (.iload 7, 2) := by decide +kernel
theorem dX12_paths_101 : decode cX12_paths 101 = .ok (.iconst 1, 1) := by decide +kernel
theorem dX12_paths_102 : decode cX12_paths 102 = .ok (.iadd, 1) := by decide +kernel
theorem dX12_paths_103 : decode cX12_paths 103 = .ok (.goto 5, 3) := by decide +kernel
theorem dX12_paths_106 : decode cX12_paths 106 = .ok (.iload 5, 2) := by decide +kernel
theorem dX12_paths_108 : decode cX12_paths 108 = .ok (.istore 5, 2) := by decide +kernel
theorem dX12_paths_110 : decode cX12_paths 110 = .ok (.iinc 8 1, 3) := by decide +kernel
theorem dX12_paths_113 : decode cX12_paths 113 = .ok (.goto (-42), 3) := by decide +kernel
theorem dX12_paths_116 : decode cX12_paths 116 = .ok (.iload 6, 2) := by decide +kernel
theorem dX12_paths_118 : decode cX12_paths 118 = .ok (.aload_n 0, 1) := by decide +kernel
theorem dX12_paths_119 : decode cX12_paths 119 = .ok (.getfield 77, 3) := by decide +kernel
theorem dX12_paths_122 : decode cX12_paths 122 = .ok (.imul, 1) := by decide +kernel
theorem dX12_paths_123 : decode cX12_paths 123 = .ok (.istore 6, 2) := by decide +kernel
theorem dX12_paths_125 : decode cX12_paths 125 = .ok (.iinc 7 1, 3) := by decide +kernel
theorem dX12_paths_128 : decode cX12_paths 128 = .ok (.goto (-71), 3) := by decide +kernel
theorem dX12_paths_131 : decode cX12_paths 131 = .ok (.iload_n 3, 1) := by decide +kernel
theorem dX12_paths_132 : decode cX12_paths 132 = .ok (.ifCond .ne 8, 3) := by decide +kernel
theorem dX12_paths_135 : decode cX12_paths 135 = .ok (.iload 4, 2) := by decide +kernel
theorem dX12_paths_137 : decode cX12_paths 137 = .ok (.goto 5, 3) := by decide +kernel
theorem dX12_paths_140 : decode cX12_paths 140 = .ok (.iload 5, 2) := by decide +kernel
theorem dX12_paths_142 : decode cX12_paths 142 = .ok (.ireturn, 1) := by decide +kernel
theorem dX12_owed_0 : decode cX12_owed 0 = .ok (.aload_n 0, 1) := by decide +kernel
theorem dX12_owed_1 : decode cX12_owed 1 = .ok (.iconst 0, 1) := by decide +kernel
theorem dX12_owed_2 : decode cX12_owed 2 = .ok (.putfield 73, 3) := by decide +kernel
theorem dX12_owed_5 : decode cX12_owed 5 = .ok (.aload_n 0, 1) := by decide +kernel
theorem dX12_owed_6 : decode cX12_owed 6 = .ok (.iload_n 1, 1) := by decide +kernel
theorem dX12_owed_7 : decode cX12_owed 7 = .ok (.invokevirtual 84, 3) := by decide +kernel
theorem dX12_owed_10 : decode cX12_owed 10 = .ok (.ifCond .ne 12, 3) := by decide +kernel
theorem dX12_owed_13 : decode cX12_owed 13 = .ok (.ldc 228, 2) := by decide +kernel
theorem dX12_owed_15 : decode cX12_owed 15 = .ok (.aload_n 0, 1) := by decide +kernel
theorem dX12_owed_16 : decode cX12_owed 16 = .ok (.iconst (-1), 1) := by decide +kernel
theorem dX12_owed_17 : decode cX12_owed 17 = .ok (.invokevirtual 163, 3) := by decide +kernel
theorem dX12_owed_20 : decode cX12_owed 20 = .ok (.isub, 1) := by decide +kernel
theorem dX12_owed_21 : decode cX12_owed 21 = .ok (.ireturn, 1) := by decide +kernel
theorem dX12_owed_22 : decode cX12_owed 22 = .ok (.iconst 0, 1) := by decide +kernel
theorem dX12_owed_23 : decode cX12_owed 23 = .ok (.istore_n 2, 1) := by decide +kernel
theorem dX12_owed_24 : decode cX12_owed 24 = .ok (.iconst 0, 1) := by decide +kernel
theorem dX12_owed_25 : decode cX12_owed 25 = .ok (.istore_n 3, 1) := by decide +kernel
theorem dX12_owed_26 : decode cX12_owed 26 = .ok (.iload_n 3, 1) := by decide +kernel
theorem dX12_owed_27 : decode cX12_owed 27 = .ok (.aload_n 0, 1) := by decide +kernel
theorem dX12_owed_28 : decode cX12_owed 28 = .ok (.getfield 77, 3) := by decide +kernel
theorem dX12_owed_31 : decode cX12_owed 31 = .ok (.if_icmp .ge 25, 3) := by decide +kernel
theorem dX12_owed_34 : decode cX12_owed 34 = .ok (.iload_n 2, 1) := by decide +kernel
theorem dX12_owed_35 : decode cX12_owed 35 = .ok (.aload_n 0, 1) := by decide +kernel
theorem dX12_owed_36 : decode cX12_owed 36 = .ok (.iload_n 3, 1) := by decide +kernel
theorem dX12_owed_37 : decode cX12_owed 37 = .ok (.iload_n 1, 1) := by decide +kernel
theorem dX12_owed_38 : decode cX12_owed 38 = .ok (.invokevirtual 125, 3) := by decide +kernel
theorem dX12_owed_41 : decode cX12_owed 41 = .ok (.aload_n 0, 1) := by decide +kernel
theorem dX12_owed_42 : decode cX12_owed 42 = .ok (.iload_n 1, 1) := by decide +kernel
theorem dX12_owed_43 : decode cX12_owed 43 = .ok (.iload_n 3, 1) := by decide +kernel
theorem dX12_owed_44 : decode cX12_owed 44 = .ok (.invokevirtual 125, 3) := by decide +kernel
theorem dX12_owed_47 : decode cX12_owed 47 = .ok (.isub, 1) := by decide +kernel
theorem dX12_owed_48 : decode cX12_owed 48 = .ok (.iadd, 1) := by decide +kernel
theorem dX12_owed_49 : decode cX12_owed 49 = .ok (.istore_n 2, 1) := by decide +kernel
theorem dX12_owed_50 : decode cX12_owed 50 = .ok (.iinc 3 1, 3) := by decide +kernel
theorem dX12_owed_53 : decode cX12_owed 53 = .ok (.goto (-27), 3) := by decide +kernel
theorem dX12_owed_56 : decode cX12_owed 56 = .ok (.iload_n 2, 1) := by decide +kernel
theorem dX12_owed_57 : decode cX12_owed 57 = .ok (.ireturn, 1) := by decide +kernel
theorem dX12_rings_0 : decode cX12_rings 0 = .ok (.aload_n 0, 1) := by decide +kernel
theorem dX12_rings_1 : decode cX12_rings 1 = .ok (.iconst 0, 1) := by decide +kernel
theorem dX12_rings_2 : decode cX12_rings 2 = .ok (.putfield 73, 3) := by decide +kernel
theorem dX12_rings_5 : decode cX12_rings 5 = .ok (.iload_n 1, 1) := by decide +kernel
theorem dX12_rings_6 : decode cX12_rings 6 = .ok (.i2l, 1) := by decide +kernel
theorem dX12_rings_7 : decode cX12_rings 7 = .ok (.lconst 0, 1) := by decide +kernel
theorem dX12_rings_8 : decode cX12_rings 8 = .ok (.lconst 1, 1) := by decide +kernel
theorem dX12_rings_9 : decode cX12_rings 9 = .ok (.invokestatic 80, 3) := by decide +kernel
theorem dX12_rings_12 : decode cX12_rings 12 = .ok (.ifCond .ne 10, 3) := by decide +kernel
theorem dX12_rings_15 : decode cX12_rings 15 = .ok (.aload_n 0, 1) := by decide +kernel
theorem dX12_rings_16 : decode cX12_rings 16 = .ok (.bipush (-2), 2) := by decide +kernel
theorem dX12_rings_18 : decode cX12_rings 18 = .ok (.invokevirtual 163, 3) := by decide +kernel
theorem dX12_rings_21 : decode cX12_rings 21 = .ok (.ireturn, 1) := by decide +kernel
theorem dX12_rings_22 : decode cX12_rings 22 = .ok (.aload_n 0, 1) := by decide +kernel
theorem dX12_rings_23 : decode cX12_rings 23 = .ok (.invokevirtual 201, 3) := by decide +kernel
theorem dX12_rings_26 : decode cX12_rings 26 = .ok (.aload_n 0, 1) := by decide +kernel
theorem dX12_rings_27 : decode cX12_rings 27 = .ok (.invokevirtual 216, 3) := by decide +kernel
theorem dX12_rings_30 : decode cX12_rings 30 = .ok (.istore_n 2, 1) := by decide +kernel
theorem dX12_rings_31 : decode cX12_rings 31 = .ok (.aload_n 0, 1) := by decide +kernel
theorem dX12_rings_32 : decode cX12_rings 32 = .ok (.invokevirtual 207, 3) := by decide +kernel
theorem dX12_rings_35 : decode cX12_rings 35 = .ok (.iload_n 1, 1) := by decide +kernel
theorem dX12_rings_36 : decode cX12_rings 36 = .ok (.ifCond .ne 7, 3) := by decide +kernel
theorem dX12_rings_39 : decode cX12_rings 39 = .ok (.iload_n 2, 1) := by decide +kernel
theorem dX12_rings_40 : decode cX12_rings 40 = .ok (.goto 7, 3) := by decide +kernel
theorem dX12_rings_43 : decode cX12_rings 43 = .ok (.aload_n 0, 1) := by decide +kernel
theorem dX12_rings_44 : decode cX12_rings 44 = .ok (.getfield 133, 3) := by decide +kernel
theorem dX12_rings_47 : decode cX12_rings 47 = .ok (.ireturn, 1) := by decide +kernel
theorem dX12_votes_0 : decode cX12_votes 0 = .ok (.aload_n 0, 1) := by decide +kernel
theorem dX12_votes_1 : decode cX12_votes 1 = .ok (.iconst 0, 1) := by decide +kernel
theorem dX12_votes_2 : decode cX12_votes 2 = .ok (.putfield 73, 3) := by decide +kernel
theorem dX12_votes_5 : decode cX12_votes 5 = .ok (.iload_n 1, 1) := by decide +kernel
theorem dX12_votes_6 : decode cX12_votes 6 = .ok (.i2l, 1) := by decide +kernel
theorem dX12_votes_7 : decode cX12_votes 7 = .ok (.lconst 0, 1) := by decide +kernel
theorem dX12_votes_8 : decode cX12_votes 8 = .ok (.ldc2_w 88, 3) := by decide +kernel
theorem dX12_votes_11 : decode cX12_votes 11 = .ok (.invokestatic 80, 3) := by decide +kernel
theorem dX12_votes_14 : decode cX12_votes 14 = .ok (.ifCond .ne 8, 3) := by decide +kernel
theorem dX12_votes_17 : decode cX12_votes 17 = .ok (.bipush (-2), 2) := by decide +kernel
theorem dX12_votes_19 : decode cX12_votes 19 = .ok (.goto 25, 3) := by decide +kernel
theorem dX12_votes_22 : decode cX12_votes 22 = .ok (.iload_n 2, 1) := by decide +kernel
theorem dX12_votes_23 : decode cX12_votes 23 = .ok (.iconst 1, 1) := by decide +kernel
theorem dX12_votes_24 : decode cX12_votes 24 = .ok (.if_icmp .ge 8, 3) := by decide +kernel
theorem dX12_votes_27 : decode cX12_votes 27 = .ok (.bipush (-4), 2) := by decide +kernel
theorem dX12_votes_29 : decode cX12_votes 29 = .ok (.goto 15, 3) := by decide +kernel
theorem dX12_votes_32 : decode cX12_votes 32 = .ok (.iload_n 2, 1) := by decide +kernel
theorem dX12_votes_33 : decode cX12_votes 33 = .ok (.bipush 30, 2) := by decide +kernel
theorem dX12_votes_35 : decode cX12_votes 35 = .ok (.if_icmp .le 8, 3) := by decide +kernel
theorem dX12_votes_38 : decode cX12_votes 38 = .ok (.bipush (-6), 2) := by decide +kernel
theorem dX12_votes_40 : decode cX12_votes 40 = .ok (.goto 4, 3) := by decide +kernel
theorem dX12_votes_43 : decode cX12_votes 43 = .ok (.iconst 0, 1) := by decide +kernel
theorem dX12_votes_44 : decode cX12_votes 44 = .ok (.istore_n 3, 1) := by decide +kernel
theorem dX12_votes_45 : decode cX12_votes 45 = .ok (.iload_n 3, 1) := by decide +kernel
theorem dX12_votes_46 : decode cX12_votes 46 = .ok (.ifCond .ge 9, 3) := by decide +kernel
theorem dX12_votes_49 : decode cX12_votes 49 = .ok (.aload_n 0, 1) := by decide +kernel
theorem dX12_votes_50 : decode cX12_votes 50 = .ok (.iload_n 3, 1) := by decide +kernel
theorem dX12_votes_51 : decode cX12_votes 51 = .ok (.invokevirtual 163, 3) := by decide +kernel
theorem dX12_votes_54 : decode cX12_votes 54 = .ok (.ireturn, 1) := by decide +kernel
theorem dX12_votes_55 : decode cX12_votes 55 = .ok (.aload_n 0, 1) := by decide +kernel
theorem dX12_votes_56 : decode cX12_votes 56 = .ok (.invokevirtual 201, 3) := by decide +kernel
theorem dX12_votes_59 : decode cX12_votes 59 = .ok (.aload_n 0, 1) := by decide +kernel
theorem dX12_votes_60 : decode cX12_votes 60 = .ok (.iload_n 2, 1) := by decide +kernel
theorem dX12_votes_61 : decode cX12_votes 61 = .ok (.invokevirtual 219, 3) := by decide +kernel
theorem dX12_votes_64 : decode cX12_votes 64 = .ok (.pop, 1) := by decide +kernel
theorem dX12_votes_65 : decode cX12_votes 65 = .ok (.iconst 0, 1) := by decide +kernel
theorem dX12_votes_66 : decode cX12_votes 66 = .ok (.istore 4, 2) := by decide +kernel
theorem dX12_votes_68 : decode cX12_votes 68 = .ok (.iload 4, 2) := by decide +kernel
theorem dX12_votes_70 : decode cX12_votes 70 = .ok (.bipush 6, 2) := by decide +kernel
theorem dX12_votes_72 : decode cX12_votes 72 = .ok (.if_icmp .ge 23, 3) := by decide +kernel
theorem dX12_votes_75 : decode cX12_votes 75 = .ok (.aload_n 0, 1) := by decide +kernel
theorem dX12_votes_76 : decode cX12_votes 76 = .ok (.getfield 67, 3) := by decide +kernel
theorem dX12_votes_79 : decode cX12_votes 79 = .ok (.iload 4, 2) := by decide +kernel
theorem dX12_votes_81 : decode cX12_votes 81 = .ok (.aload_n 0, 1) := by decide +kernel
theorem dX12_votes_82 : decode cX12_votes 82 = .ok (.getfield 46, 3) := by decide +kernel
theorem dX12_votes_85 : decode cX12_votes 85 = .ok (.iload 4, 2) := by decide +kernel
theorem dX12_votes_87 : decode cX12_votes 87 = .ok (.iaload, 1) := by decide +kernel
theorem dX12_votes_88 : decode cX12_votes 88 = .ok (.iastore, 1) := by decide +kernel
theorem dX12_votes_89 : decode cX12_votes 89 = .ok (.iinc 4 1, 3) := by decide +kernel
theorem dX12_votes_92 : decode cX12_votes 92 = .ok (.goto (-24), 3) := by decide +kernel
theorem dX12_votes_95 : decode cX12_votes 95 = .ok (.aload_n 0, 1) := by decide +kernel
theorem dX12_votes_96 : decode cX12_votes 96 = .ok (.invokevirtual 207, 3) := by decide +kernel
theorem dX12_votes_99 : decode cX12_votes 99 = .ok (.aload_n 0, 1) := by decide +kernel
theorem dX12_votes_100 : decode cX12_votes 100 = .ok (.invokevirtual 201, 3) := by decide +kernel
theorem dX12_votes_103 : decode cX12_votes 103 = .ok (.aload_n 0, 1) := by decide +kernel
theorem dX12_votes_104 : decode cX12_votes 104 = .ok (.iload_n 1, 1) := by decide +kernel
theorem dX12_votes_105 : decode cX12_votes 105 = .ok (.putfield 97, 3) := by decide +kernel
theorem dX12_votes_108 : decode cX12_votes 108 = .ok (.aload_n 0, 1) := by decide +kernel
theorem dX12_votes_109 : decode cX12_votes 109 = .ok (.iload_n 2, 1) := by decide +kernel
theorem dX12_votes_110 : decode cX12_votes 110 = .ok (.invokevirtual 219, 3) := by decide +kernel
theorem dX12_votes_113 : decode cX12_votes 113 = .ok (.pop, 1) := by decide +kernel
theorem dX12_votes_114 : decode cX12_votes 114 = .ok (.iconst 0, 1) := by decide +kernel
theorem dX12_votes_115 : decode cX12_votes 115 = .ok (.istore 4, 2) := by decide +kernel
theorem dX12_votes_117 : decode cX12_votes 117 = .ok (.iconst 0, 1) := by decide +kernel
theorem dX12_votes_118 : decode cX12_votes 118 = .ok (.istore 5, 2) := by decide +kernel
theorem dX12_votes_120 : decode cX12_votes 120 = .ok (.iload 5, 2) := by decide +kernel
theorem dX12_votes_122 : decode cX12_votes 122 = .ok (.aload_n 0, 1) := by decide +kernel
theorem dX12_votes_123 : decode cX12_votes 123 = .ok (.getfield 77, 3) := by decide +kernel
theorem dX12_votes_126 : decode cX12_votes 126 = .ok (.if_icmp .ge 39, 3) := by decide +kernel
theorem dX12_votes_129 : decode cX12_votes 129 = .ok (.iload 4, 2) := by decide +kernel
theorem dX12_votes_131 : decode cX12_votes 131 = .ok (.aload_n 0, 1) := by decide +kernel
theorem dX12_votes_132 : decode cX12_votes 132 = .ok (.getfield 46, 3) := by decide +kernel
theorem dX12_votes_135 : decode cX12_votes 135 = .ok (.iload 5, 2) := by decide +kernel
theorem dX12_votes_137 : decode cX12_votes 137 = .ok (.iaload, 1) := by decide +kernel
theorem dX12_votes_138 : decode cX12_votes 138 = .ok (.aload_n 0, 1) := by decide +kernel
theorem dX12_votes_139 : decode cX12_votes 139 = .ok (.getfield 67, 3) := by decide +kernel
theorem dX12_votes_142 : decode cX12_votes 142 = .ok (.iload 5, 2) := by decide +kernel
theorem dX12_votes_144 : decode cX12_votes 144 = .ok (.iaload, 1) := by decide +kernel
theorem dX12_votes_145 : decode cX12_votes 145 = .ok (.if_icmp .le 10, 3) := by decide +kernel
theorem dX12_votes_148 : decode cX12_votes 148 = .ok (.iconst 1, 1) := by decide +kernel
theorem dX12_votes_149 : decode cX12_votes 149 = .ok (.iload 5, 2) := by decide +kernel
theorem dX12_votes_151 : decode cX12_votes 151 = .ok (.ishl, 1) := by decide +kernel
theorem dX12_votes_152 : decode cX12_votes 152 = .ok (.goto 4, 3) := by decide +kernel
theorem dX12_votes_155 : decode cX12_votes 155 = .ok (.iconst 0, 1) := by decide +kernel
theorem dX12_votes_156 : decode cX12_votes 156 = .ok (.ior, 1) := by decide +kernel
theorem dX12_votes_157 : decode cX12_votes 157 = .ok (.istore 4, 2) := by decide +kernel
theorem dX12_votes_159 : decode cX12_votes 159 = .ok (.iinc 5 1, 3) := by decide +kernel
theorem dX12_votes_162 : decode cX12_votes 162 = .ok (.goto (-42), 3) := by decide +kernel
theorem dX12_votes_165 : decode cX12_votes 165 = .ok (.aload_n 0, 1) := by decide +kernel
theorem dX12_votes_166 : decode cX12_votes 166 = .ok (.invokevirtual 207, 3) := by decide +kernel
theorem dX12_votes_169 : decode cX12_votes 169 = .ok (.iload 4, 2) := by decide +kernel
theorem dX12_votes_171 : decode cX12_votes 171 = .ok (.ireturn, 1) := by decide +kernel
theorem dX12_row_0 : decode cX12_row 0 = .ok (.aload_n 0, 1) := by decide +kernel
theorem dX12_row_1 : decode cX12_row 1 = .ok (.iconst 0, 1) := by decide +kernel
theorem dX12_row_2 : decode cX12_row 2 = .ok (.putfield 73, 3) := by decide +kernel
theorem dX12_row_5 : decode cX12_row 5 = .ok (.iload_n 1, 1) := by decide +kernel
theorem dX12_row_6 : decode cX12_row 6 = .ok (.ifCond .ge 10, 3) := by decide +kernel
theorem dX12_row_9 : decode cX12_row 9 = .ok (.aload_n 0, 1) := by decide +kernel
theorem dX12_row_10 : decode cX12_row 10 = .ok (.bipush (-4), 2) := by decide +kernel
theorem dX12_row_12 : decode cX12_row 12 = .ok (.invokevirtual 163, 3) := by decide +kernel
theorem dX12_row_15 : decode cX12_row 15 = .ok (.ireturn, 1) := by decide +kernel
theorem dX12_row_16 : decode cX12_row 16 = .ok (.iload_n 1, 1) := by decide +kernel
theorem dX12_row_17 : decode cX12_row 17 = .ok (.sipush 999, 3) := by decide +kernel
theorem dX12_row_20 : decode cX12_row 20 = .ok (.if_icmp .gt 12, 3) := by decide +kernel
theorem dX12_row_23 : decode cX12_row 23 = .ok (.aload_n 0, 1) := by decide +kernel
theorem dX12_row_24 : decode cX12_row 24 = .ok (.getfield 233, 3) := by decide +kernel
theorem dX12_row_27 : decode cX12_row 27 = .ok (.bipush 8, 2) := by decide +kernel
theorem dX12_row_29 : decode cX12_row 29 = .ok (.if_icmp .ne 10, 3) := by decide +kernel
theorem dX12_row_32 : decode cX12_row 32 = .ok (.aload_n 0, 1) := by decide +kernel
theorem dX12_row_33 : decode cX12_row 33 = .ok (.bipush (-6), 2) := by decide +kernel
theorem dX12_row_35 : decode cX12_row 35 = .ok (.invokevirtual 163, 3) := by decide +kernel
theorem dX12_row_38 : decode cX12_row 38 = .ok (.ireturn, 1) := by decide +kernel
theorem dX12_row_39 : decode cX12_row 39 = .ok (.aload_n 0, 1) := by decide +kernel
theorem dX12_row_40 : decode cX12_row 40 = .ok (.getfield 70, 3) := by decide +kernel
theorem dX12_row_43 : decode cX12_row 43 = .ok (.aload_n 0, 1) := by decide +kernel
theorem dX12_row_44 : decode cX12_row 44 = .ok (.getfield 233, 3) := by decide +kernel
theorem dX12_row_47 : decode cX12_row 47 = .ok (.iload_n 1, 1) := by decide +kernel
theorem dX12_row_48 : decode cX12_row 48 = .ok (.iastore, 1) := by decide +kernel
theorem dX12_row_49 : decode cX12_row 49 = .ok (.aload_n 0, 1) := by decide +kernel
theorem dX12_row_50 : decode cX12_row 50 = .ok (.dup, 1) := by decide +kernel
theorem dX12_row_51 : decode cX12_row 51 = .ok (.getfield 233, 3) := by decide +kernel
theorem dX12_row_54 : decode cX12_row 54 = .ok (.iconst 1, 1) := by decide +kernel
theorem dX12_row_55 : decode cX12_row 55 = .ok (.iadd, 1) := by decide +kernel
theorem dX12_row_56 : decode cX12_row 56 = .ok (.putfield 233, 3) := by decide +kernel
theorem dX12_row_59 : decode cX12_row 59 = .ok (.aload_n 0, 1) := by decide +kernel
theorem dX12_row_60 : decode cX12_row 60 = .ok (.getfield 233, 3) := by decide +kernel
theorem dX12_row_63 : decode cX12_row 63 = .ok (.ireturn, 1) := by decide +kernel
theorem dX12_isSold_0 : decode cX12_isSold 0 = .ok (.aload_n 0, 1) := by decide +kernel
theorem dX12_isSold_1 : decode cX12_isSold 1 = .ok (.iload_n 1, 1) := by decide +kernel
theorem dX12_isSold_2 : decode cX12_isSold 2 = .ok (.iload_n 2, 1) := by decide +kernel
theorem dX12_isSold_3 : decode cX12_isSold 3 = .ok (.invokevirtual 195, 3) := by decide +kernel
theorem dX12_isSold_6 : decode cX12_isSold 6 = .ok (.ifCond .eq 24, 3) := by decide +kernel
theorem dX12_isSold_9 : decode cX12_isSold 9 = .ok (.iload_n 3, 1) := by decide +kernel
theorem dX12_isSold_10 : decode cX12_isSold 10 = .ok (.invokestatic 210, 3) := by decide +kernel
theorem dX12_isSold_13 : decode cX12_isSold 13 = .ok (.ifCond .eq 17, 3) := by decide +kernel
theorem dX12_isSold_16 : decode cX12_isSold 16 = .ok (.aload_n 0, 1) := by decide +kernel
theorem dX12_isSold_17 : decode cX12_isSold 17 = .ok (.iload_n 1, 1) := by decide +kernel
theorem dX12_isSold_18 : decode cX12_isSold 18 = .ok (.iload_n 2, 1) := by decide +kernel
theorem dX12_isSold_19 : decode cX12_isSold 19 = .ok (.iload_n 3, 1) := by decide +kernel
theorem dX12_isSold_20 : decode cX12_isSold 20 = .ok (.invokevirtual 107, 3) := by decide +kernel
theorem dX12_isSold_23 : decode cX12_isSold 23 = .ok (.ifCond .eq 7, 3) := by decide +kernel
theorem dX12_isSold_26 : decode cX12_isSold 26 = .ok (.iconst 1, 1) := by decide +kernel
theorem dX12_isSold_27 : decode cX12_isSold 27 = .ok (.goto 4, 3) := by decide +kernel
theorem dX12_isSold_30 : decode cX12_isSold 30 = .ok (.iconst 0, 1) := by decide +kernel
theorem dX12_isSold_31 : decode cX12_isSold 31 = .ok (.istore 4, 2) := by decide +kernel
theorem dX12_isSold_33 : decode cX12_isSold 33 = .ok (.iload 4, 2) := by decide +kernel
theorem dX12_isSold_35 : decode cX12_isSold 35 = .ok (.ifCond .eq 10, 3) := by decide +kernel
theorem dX12_isSold_38 : decode cX12_isSold 38 = .ok (.aload_n 0, 1) := by decide +kernel
theorem dX12_isSold_39 : decode cX12_isSold 39 = .ok (.iload_n 1, 1) := by decide +kernel
theorem dX12_isSold_40 : decode cX12_isSold 40 = .ok (.iload_n 2, 1) := by decide +kernel
theorem dX12_isSold_41 : decode cX12_isSold 41 = .ok (.iload_n 3, 1) := by decide +kernel
theorem dX12_isSold_42 : decode cX12_isSold 42 = .ok (.invokevirtual 111, 3) := by decide +kernel
theorem dX12_isSold_45 : decode cX12_isSold 45 = .ok (.iload 4, 2) := by decide +kernel
theorem dX12_isSold_47 : decode cX12_isSold 47 = .ok (.ireturn, 1) := by decide +kernel
theorem dX12_judge_0 : decode cX12_judge 0 = .ok (.aload_n 0, 1) := by decide +kernel
theorem dX12_judge_1 : decode cX12_judge 1 = .ok (.iconst 0, 1) := by decide +kernel
theorem dX12_judge_2 : decode cX12_judge 2 = .ok (.putfield 73, 3) := by decide +kernel
theorem dX12_judge_5 : decode cX12_judge 5 = .ok (.aload_n 0, 1) := by decide +kernel
theorem dX12_judge_6 : decode cX12_judge 6 = .ok (.getfield 233, 3) := by decide +kernel
theorem dX12_judge_9 : decode cX12_judge 9 = .ok (.istore_n 1, 1) := by decide +kernel
theorem dX12_judge_10 : decode cX12_judge 10 = .ok (.aload_n 0, 1) := by decide +kernel
theorem dX12_judge_11 : decode cX12_judge 11 = .ok (.iconst 0, 1) := by decide +kernel
theorem dX12_judge_12 : decode cX12_judge 12 = .ok (.putfield 233, 3) := by decide +kernel
theorem dX12_judge_15 : decode cX12_judge 15 = .ok (.aload_n 0, 1) := by decide +kernel
theorem dX12_judge_16 : decode cX12_judge 16 = .ok (.invokevirtual 201, 3) := by decide +kernel
theorem dX12_judge_19 : decode cX12_judge 19 = .ok (.bipush (-9), 2) := by decide +kernel
theorem dX12_judge_21 : decode cX12_judge 21 = .ok (.istore_n 2, 1) := by decide +kernel
theorem dX12_judge_22 : decode cX12_judge 22 = .ok (.iconst 0, 1) := by decide +kernel
theorem dX12_judge_23 : decode cX12_judge 23 = .ok (.istore_n 3, 1) := by decide +kernel
theorem dX12_judge_24 : decode cX12_judge 24 = .ok (.iload_n 3, 1) := by decide +kernel
theorem dX12_judge_25 : decode cX12_judge 25 = .ok (.iload_n 1, 1) := by decide +kernel
theorem dX12_judge_26 : decode cX12_judge 26 = .ok (.if_icmp .ge 57, 3) := by decide +kernel
theorem dX12_judge_29 : decode cX12_judge 29 = .ok (.iload_n 2, 1) := by decide +kernel
theorem dX12_judge_30 : decode cX12_judge 30 = .ok (.ifCond .ge 53, 3) := by decide +kernel
theorem dX12_judge_33 : decode cX12_judge 33 = .ok (.aload_n 0, 1) := by decide +kernel
theorem dX12_judge_34 : decode cX12_judge 34 = .ok (.aload_n 0, 1) := by decide +kernel
theorem dX12_judge_35 : decode cX12_judge 35 = .ok (.getfield 70, 3) := by decide +kernel
theorem dX12_judge_38 : decode cX12_judge 38 = .ok (.iload_n 3, 1) := by decide +kernel
theorem dX12_judge_39 : decode cX12_judge 39 = .ok (.iaload, 1) := by decide +kernel
theorem dX12_judge_40 : decode cX12_judge 40 = .ok (.bipush 100, 2) := by decide +kernel
theorem dX12_judge_42 : decode cX12_judge 42 = .ok (.idiv, 1) := by decide +kernel
theorem dX12_judge_43 : decode cX12_judge 43 = .ok (.aload_n 0, 1) := by decide +kernel
theorem dX12_judge_44 : decode cX12_judge 44 = .ok (.getfield 70, 3) := by decide +kernel
theorem dX12_judge_47 : decode cX12_judge 47 = .ok (.iload_n 3, 1) := by decide +kernel
theorem dX12_judge_48 : decode cX12_judge 48 = .ok (.iaload, 1) := by decide +kernel
theorem dX12_judge_49 : decode cX12_judge 49 = .ok (.bipush 10, 2) := by decide +kernel
theorem dX12_judge_51 : decode cX12_judge 51 = .ok (.idiv, 1) := by decide +kernel
theorem dX12_judge_52 : decode cX12_judge 52 = .ok (.bipush 10, 2) := by decide +kernel
theorem dX12_judge_54 : decode cX12_judge 54 = .ok (.irem, 1) := by decide +kernel
theorem dX12_judge_55 : decode cX12_judge 55 = .ok (.aload_n 0, 1) := by decide +kernel
theorem dX12_judge_56 : decode cX12_judge 56 = .ok (.getfield 70, 3) := by decide +kernel
theorem dX12_judge_59 : decode cX12_judge 59 = .ok (.iload_n 3, 1) := by decide +kernel
theorem dX12_judge_60 : decode cX12_judge 60 = .ok (.iaload, 1) := by decide +kernel
theorem dX12_judge_61 : decode cX12_judge 61 = .ok (.bipush 10, 2) := by decide +kernel
theorem dX12_judge_63 : decode cX12_judge 63 = .ok (.irem, 1) := by decide +kernel
theorem dX12_judge_64 : decode cX12_judge 64 = .ok (.invokevirtual 236, 3) := by decide +kernel
theorem dX12_judge_67 : decode cX12_judge 67 = .ok (.ifCond .eq 8, 3) := by decide +kernel
theorem dX12_judge_70 : decode cX12_judge 70 = .ok (.bipush (-9), 2) := by decide +kernel
theorem dX12_judge_72 : decode cX12_judge 72 = .ok (.goto 4, 3) := by decide +kernel
theorem dX12_judge_75 : decode cX12_judge 75 = .ok (.iload_n 3, 1) := by decide +kernel
theorem dX12_judge_76 : decode cX12_judge 76 = .ok (.istore_n 2, 1) := by decide +kernel
theorem dX12_judge_77 : decode cX12_judge 77 = .ok (.iinc 3 1, 3) := by decide +kernel
theorem dX12_judge_80 : decode cX12_judge 80 = .ok (.goto (-56), 3) := by decide +kernel
theorem dX12_judge_83 : decode cX12_judge 83 = .ok (.aload_n 0, 1) := by decide +kernel
theorem dX12_judge_84 : decode cX12_judge 84 = .ok (.invokevirtual 207, 3) := by decide +kernel
theorem dX12_judge_87 : decode cX12_judge 87 = .ok (.iload_n 2, 1) := by decide +kernel
theorem dX12_judge_88 : decode cX12_judge 88 = .ok (.ireturn, 1) := by decide +kernel
theorem dX12_draw_0 : decode cX12_draw 0 = .ok (.aload_n 0, 1) := by decide +kernel
theorem dX12_draw_1 : decode cX12_draw 1 = .ok (.aload_n 0, 1) := by decide +kernel
theorem dX12_draw_2 : decode cX12_draw 2 = .ok (.getfield 239, 3) := by decide +kernel
theorem dX12_draw_5 : decode cX12_draw 5 = .ok (.ldc 242, 2) := by decide +kernel
theorem dX12_draw_7 : decode cX12_draw 7 = .ok (.imul, 1) := by decide +kernel
theorem dX12_draw_8 : decode cX12_draw 8 = .ok (.sipush 12345, 3) := by decide +kernel
theorem dX12_draw_11 : decode cX12_draw 11 = .ok (.iadd, 1) := by decide +kernel
theorem dX12_draw_12 : decode cX12_draw 12 = .ok (.putfield 239, 3) := by decide +kernel
theorem dX12_draw_15 : decode cX12_draw 15 = .ok (.aload_n 0, 1) := by decide +kernel
theorem dX12_draw_16 : decode cX12_draw 16 = .ok (.getfield 239, 3) := by decide +kernel
theorem dX12_draw_19 : decode cX12_draw 19 = .ok (.ldc 243, 2) := by decide +kernel
theorem dX12_draw_21 : decode cX12_draw 21 = .ok (.iand, 1) := by decide +kernel
theorem dX12_draw_22 : decode cX12_draw 22 = .ok (.ldc 244, 2) := by decide +kernel
theorem dX12_draw_24 : decode cX12_draw 24 = .ok (.idiv, 1) := by decide +kernel
theorem dX12_draw_25 : decode cX12_draw 25 = .ok (.iload_n 1, 1) := by decide +kernel
theorem dX12_draw_26 : decode cX12_draw 26 = .ok (.irem, 1) := by decide +kernel
theorem dX12_draw_27 : decode cX12_draw 27 = .ok (.ireturn, 1) := by decide +kernel
theorem dX12_seeds_0 : decode cX12_seeds 0 = .ok (.aload_n 0, 1) := by decide +kernel
theorem dX12_seeds_1 : decode cX12_seeds 1 = .ok (.iconst 0, 1) := by decide +kernel
theorem dX12_seeds_2 : decode cX12_seeds 2 = .ok (.putfield 73, 3) := by decide +kernel
theorem dX12_seeds_5 : decode cX12_seeds 5 = .ok (.iload_n 1, 1) := by decide +kernel
theorem dX12_seeds_6 : decode cX12_seeds 6 = .ok (.iconst 1, 1) := by decide +kernel
theorem dX12_seeds_7 : decode cX12_seeds 7 = .ok (.if_icmp .ge 8, 3) := by decide +kernel
theorem dX12_seeds_10 : decode cX12_seeds 10 = .ok (.bipush (-4), 2) := by decide +kernel
theorem dX12_seeds_12 : decode cX12_seeds 12 = .ok (.goto 27, 3) := by decide +kernel
theorem dX12_seeds_15 : decode cX12_seeds 15 = .ok (.iload_n 1, 1) := by decide +kernel
theorem dX12_seeds_16 : decode cX12_seeds 16 = .ok (.bipush 60, 2) := by decide +kernel
theorem dX12_seeds_18 : decode cX12_seeds 18 = .ok (.if_icmp .le 8, 3) := by decide +kernel
theorem dX12_seeds_21 : decode cX12_seeds 21 = .ok (.bipush (-6), 2) := by decide +kernel
theorem dX12_seeds_23 : decode cX12_seeds 23 = .ok (.goto 16, 3) := by decide +kernel
theorem dX12_seeds_26 : decode cX12_seeds 26 = .ok (.aload_n 0, 1) := by decide +kernel
theorem dX12_seeds_27 : decode cX12_seeds 27 = .ok (.getfield 77, 3) := by decide +kernel
theorem dX12_seeds_30 : decode cX12_seeds 30 = .ok (.ifCond .ne 8, 3) := by decide +kernel
theorem dX12_seeds_33 : decode cX12_seeds 33 = .ok (.bipush (-3), 2) := by decide +kernel
theorem dX12_seeds_35 : decode cX12_seeds 35 = .ok (.goto 4, 3) := by decide +kernel
theorem dX12_seeds_38 : decode cX12_seeds 38 = .ok (.iconst 0, 1) := by decide +kernel
theorem dX12_seeds_39 : decode cX12_seeds 39 = .ok (.istore_n 3, 1) := by decide +kernel
theorem dX12_seeds_40 : decode cX12_seeds 40 = .ok (.iload_n 3, 1) := by decide +kernel
theorem dX12_seeds_41 : decode cX12_seeds 41 = .ok (.ifCond .ge 9, 3) := by decide +kernel
theorem dX12_seeds_44 : decode cX12_seeds 44 = .ok (.aload_n 0, 1) := by decide +kernel
theorem dX12_seeds_45 : decode cX12_seeds 45 = .ok (.iload_n 3, 1) := by decide +kernel
theorem dX12_seeds_46 : decode cX12_seeds 46 = .ok (.invokevirtual 163, 3) := by decide +kernel
theorem dX12_seeds_49 : decode cX12_seeds 49 = .ok (.ireturn, 1) := by decide +kernel
theorem dX12_seeds_50 : decode cX12_seeds 50 = .ok (.aload_n 0, 1) := by decide +kernel
theorem dX12_seeds_51 : decode cX12_seeds 51 = .ok (.invokevirtual 201, 3) := by decide +kernel
theorem dX12_seeds_54 : decode cX12_seeds 54 = .ok (.aload_n 0, 1) := by decide +kernel
theorem dX12_seeds_55 : decode cX12_seeds 55 = .ok (.iload_n 2, 1) := by decide +kernel
theorem dX12_seeds_56 : decode cX12_seeds 56 = .ok (.putfield 239, 3) := by decide +kernel
theorem dX12_seeds_59 : decode cX12_seeds 59 = .ok (.iconst 0, 1) := by decide +kernel
theorem dX12_seeds_60 : decode cX12_seeds 60 = .ok (.istore 4, 2) := by decide +kernel
theorem dX12_seeds_62 : decode cX12_seeds 62 = .ok (.iconst 0, 1) := by decide +kernel
theorem dX12_seeds_63 : decode cX12_seeds 63 = .ok (.istore 5, 2) := by decide +kernel
theorem dX12_seeds_65 : decode cX12_seeds 65 = .ok (.iload 5, 2) := by decide +kernel
theorem dX12_seeds_67 : decode cX12_seeds 67 = .ok (.iload_n 1, 1) := by decide +kernel
theorem dX12_seeds_68 : decode cX12_seeds 68 = .ok (.if_icmp .ge 59, 3) := by decide +kernel
theorem dX12_seeds_71 : decode cX12_seeds 71 = .ok (.aload_n 0, 1) := by decide +kernel
theorem dX12_seeds_72 : decode cX12_seeds 72 = .ok (.aload_n 0, 1) := by decide +kernel
theorem dX12_seeds_73 : decode cX12_seeds 73 = .ok (.getfield 77, 3) := by decide +kernel
theorem dX12_seeds_76 : decode cX12_seeds 76 = .ok (.invokevirtual 245, 3) := by decide +kernel
theorem dX12_seeds_79 : decode cX12_seeds 79 = .ok (.istore 6, 2) := by decide +kernel
theorem dX12_seeds_81 : decode cX12_seeds 81 = .ok (.aload_n 0, 1) := by decide +kernel
theorem dX12_seeds_82 : decode cX12_seeds 82 = .ok (.aload_n 0, 1) := by decide +kernel
theorem dX12_seeds_83 : decode cX12_seeds 83 = .ok (.getfield 77, 3) := by decide +kernel
theorem dX12_seeds_86 : decode cX12_seeds 86 = .ok (.invokevirtual 245, 3) := by decide +kernel
theorem dX12_seeds_89 : decode cX12_seeds 89 = .ok (.istore 7, 2) := by decide +kernel
theorem dX12_seeds_91 : decode cX12_seeds 91 = .ok (.aload_n 0, 1) := by decide +kernel
theorem dX12_seeds_92 : decode cX12_seeds 92 = .ok (.iconst 3, 1) := by decide +kernel
theorem dX12_seeds_93 : decode cX12_seeds 93 = .ok (.invokevirtual 245, 3) := by decide +kernel
theorem dX12_seeds_96 : decode cX12_seeds 96 = .ok (.istore 8, 2) := by decide +kernel
theorem dX12_seeds_98 : decode cX12_seeds 98 = .ok (.iload 4, 2) := by decide +kernel
theorem dX12_seeds_100 : decode cX12_seeds 100 = .ok (.aload_n 0, 1) := by decide +kernel
theorem dX12_seeds_101 : decode cX12_seeds 101 = .ok (.iload 6, 2) := by decide +kernel
theorem dX12_seeds_103 : decode cX12_seeds 103 = .ok (.iload 7, 2) := by decide +kernel
theorem dX12_seeds_105 : decode cX12_seeds 105 = .ok (.iload 8, 2) := by decide +kernel
theorem dX12_seeds_107 : decode cX12_seeds 107 = .ok (.invokevirtual 236, 3) := by decide +kernel
theorem dX12_seeds_110 : decode cX12_seeds 110 = .ok (.ifCond .eq 7, 3) := by decide +kernel
theorem dX12_seeds_113 : decode cX12_seeds 113 = .ok (.iconst 1, 1) := by decide +kernel
theorem dX12_seeds_114 : decode cX12_seeds 114 = .ok (.goto 4, 3) := by decide +kernel
theorem dX12_seeds_117 : decode cX12_seeds 117 = .ok (.iconst 0, 1) := by decide +kernel
theorem dX12_seeds_118 : decode cX12_seeds 118 = .ok (.iadd, 1) := by decide +kernel
theorem dX12_seeds_119 : decode cX12_seeds 119 = .ok (.istore 4, 2) := by decide +kernel
theorem dX12_seeds_121 : decode cX12_seeds 121 = .ok (.iinc 5 1, 3) := by decide +kernel
theorem dX12_seeds_124 : decode cX12_seeds 124 = .ok (.goto (-59), 3) := by decide +kernel
theorem dX12_seeds_127 : decode cX12_seeds 127 = .ok (.aload_n 0, 1) := by decide +kernel
theorem dX12_seeds_128 : decode cX12_seeds 128 = .ok (.invokevirtual 207, 3) := by decide +kernel
theorem dX12_seeds_131 : decode cX12_seeds 131 = .ok (.iload 4, 2) := by decide +kernel
theorem dX12_seeds_133 : decode cX12_seeds 133 = .ok (.ireturn, 1) := by decide +kernel
theorem dX12_sumOf_0 : decode cX12_sumOf 0 = .ok (.iconst 0, 1) := by decide +kernel
theorem dX12_sumOf_1 : decode cX12_sumOf 1 = .ok (.istore_n 3, 1) := by decide +kernel
theorem dX12_sumOf_2 : decode cX12_sumOf 2 = .ok (.iconst 0, 1) := by decide +kernel
theorem dX12_sumOf_3 : decode cX12_sumOf 3 = .ok (.istore 4, 2) := by decide +kernel
theorem dX12_sumOf_5 : decode cX12_sumOf 5 = .ok (.iload 4, 2) := by decide +kernel
theorem dX12_sumOf_7 : decode cX12_sumOf 7 = .ok (.iload_n 2, 1) := by decide +kernel
theorem dX12_sumOf_8 : decode cX12_sumOf 8 = .ok (.if_icmp .ge 16, 3) := by decide +kernel
theorem dX12_sumOf_11 : decode cX12_sumOf 11 = .ok (.iload_n 3, 1) := by decide +kernel
theorem dX12_sumOf_12 : decode cX12_sumOf 12 = .ok (.aload_n 1, 1) := by decide +kernel
theorem dX12_sumOf_13 : decode cX12_sumOf 13 = .ok (.iload 4, 2) := by decide +kernel
theorem dX12_sumOf_15 : decode cX12_sumOf 15 = .ok (.iaload, 1) := by decide +kernel
theorem dX12_sumOf_16 : decode cX12_sumOf 16 = .ok (.iadd, 1) := by decide +kernel
theorem dX12_sumOf_17 : decode cX12_sumOf 17 = .ok (.istore_n 3, 1) := by decide +kernel
theorem dX12_sumOf_18 : decode cX12_sumOf 18 = .ok (.iinc 4 1, 3) := by decide +kernel
theorem dX12_sumOf_21 : decode cX12_sumOf 21 = .ok (.goto (-16), 3) := by decide +kernel
theorem dX12_sumOf_24 : decode cX12_sumOf 24 = .ok (.iload_n 3, 1) := by decide +kernel
theorem dX12_sumOf_25 : decode cX12_sumOf 25 = .ok (.ireturn, 1) := by decide +kernel
theorem dX12_count_0 : decode cX12_count 0 = .ok (.aload_n 0, 1) := by decide +kernel
theorem dX12_count_1 : decode cX12_count 1 = .ok (.iconst 0, 1) := by decide +kernel
theorem dX12_count_2 : decode cX12_count 2 = .ok (.putfield 73, 3) := by decide +kernel
theorem dX12_count_5 : decode cX12_count 5 = .ok (.iload_n 1, 1) := by decide +kernel
theorem dX12_count_6 : decode cX12_count 6 = .ok (.tableswitch 144 0 8 #[50, 55, 60, 65, 78, 93, 109, 114, 119], 50) := by decide +kernel
theorem dX12_count_56 : decode cX12_count 56 = .ok (.aload_n 0, 1) := by decide +kernel
theorem dX12_count_57 : decode cX12_count 57 = .ok (.getfield 77, 3) := by decide +kernel
theorem dX12_count_60 : decode cX12_count 60 = .ok (.ireturn, 1) := by decide +kernel
theorem dX12_count_61 : decode cX12_count 61 = .ok (.aload_n 0, 1) := by decide +kernel
theorem dX12_count_62 : decode cX12_count 62 = .ok (.getfield 122, 3) := by decide +kernel
theorem dX12_count_65 : decode cX12_count 65 = .ok (.ireturn, 1) := by decide +kernel
theorem dX12_count_66 : decode cX12_count 66 = .ok (.aload_n 0, 1) := by decide +kernel
theorem dX12_count_67 : decode cX12_count 67 = .ok (.getfield 97, 3) := by decide +kernel
theorem dX12_count_70 : decode cX12_count 70 = .ok (.ireturn, 1) := by decide +kernel
theorem dX12_count_71 : decode cX12_count 71 = .ok (.aload_n 0, 1) := by decide +kernel
theorem dX12_count_72 : decode cX12_count 72 = .ok (.aload_n 0, 1) := by decide +kernel
theorem dX12_count_73 : decode cX12_count 73 = .ok (.getfield 31, 3) := by decide +kernel
theorem dX12_count_76 : decode cX12_count 76 = .ok (.aload_n 0, 1) := by decide +kernel
theorem dX12_count_77 : decode cX12_count 77 = .ok (.getfield 77, 3) := by decide +kernel
theorem dX12_count_80 : decode cX12_count 80 = .ok (.invokevirtual 248, 3) := by decide +kernel
theorem dX12_count_83 : decode cX12_count 83 = .ok (.ireturn, 1) := by decide +kernel
theorem dX12_count_84 : decode cX12_count 84 = .ok (.aload_n 0, 1) := by decide +kernel
theorem dX12_count_85 : decode cX12_count 85 = .ok (.aload_n 0, 1) := by decide +kernel
theorem dX12_count_86 : decode cX12_count 86 = .ok (.getfield 34, 3) := by decide +kernel
theorem dX12_count_89 : decode cX12_count 89 = .ok (.iconst 3, 1) := by decide +kernel
theorem dX12_count_90 : decode cX12_count 90 = .ok (.aload_n 0, 1) := by decide +kernel
theorem dX12_count_91 : decode cX12_count 91 = .ok (.getfield 77, 3) := by decide +kernel
theorem dX12_count_94 : decode cX12_count 94 = .ok (.imul, 1) := by decide +kernel
theorem dX12_count_95 : decode cX12_count 95 = .ok (.invokevirtual 248, 3) := by decide +kernel
theorem dX12_count_98 : decode cX12_count 98 = .ok (.ireturn, 1) := by decide +kernel
theorem dX12_count_99 : decode cX12_count 99 = .ok (.aload_n 0, 1) := by decide +kernel
theorem dX12_count_100 : decode cX12_count 100 = .ok (.aload_n 0, 1) := by decide +kernel
theorem dX12_count_101 : decode cX12_count 101 = .ok (.getfield 37, 3) := by decide +kernel
theorem dX12_count_104 : decode cX12_count 104 = .ok (.bipush 6, 2) := by decide +kernel
theorem dX12_count_106 : decode cX12_count 106 = .ok (.aload_n 0, 1) := by decide +kernel
theorem dX12_count_107 : decode cX12_count 107 = .ok (.getfield 77, 3) := by decide +kernel
theorem dX12_count_110 : decode cX12_count 110 = .ok (.imul, 1) := by decide +kernel
theorem dX12_count_111 : decode cX12_count 111 = .ok (.invokevirtual 248, 3) := by decide +kernel
theorem dX12_count_114 : decode cX12_count 114 = .ok (.ireturn, 1) := by decide +kernel
theorem dX12_count_115 : decode cX12_count 115 = .ok (.aload_n 0, 1) := by decide +kernel
theorem dX12_count_116 : decode cX12_count 116 = .ok (.getfield 166, 3) := by decide +kernel
theorem dX12_count_119 : decode cX12_count 119 = .ok (.ireturn, 1) := by decide +kernel
theorem dX12_count_120 : decode cX12_count 120 = .ok (.aload_n 0, 1) := by decide +kernel
theorem dX12_count_121 : decode cX12_count 121 = .ok (.getfield 233, 3) := by decide +kernel
theorem dX12_count_124 : decode cX12_count 124 = .ok (.ireturn, 1) := by decide +kernel
theorem dX12_count_125 : decode cX12_count 125 = .ok (.aload_n 0, 1) := by decide +kernel
theorem dX12_count_126 : decode cX12_count 126 = .ok (.getfield 122, 3) := by decide +kernel
theorem dX12_count_129 : decode cX12_count 129 = .ok (.aload_n 0, 1) := by decide +kernel
theorem dX12_count_130 : decode cX12_count 130 = .ok (.getfield 153, 3) := by decide +kernel
theorem dX12_count_133 : decode cX12_count 133 = .ok (.if_icmp .ge 15, 3) := by decide +kernel
theorem dX12_count_136 : decode cX12_count 136 = .ok (.aload_n 0, 1) := by decide +kernel
theorem dX12_count_137 : decode cX12_count 137 = .ok (.getfield 153, 3) := by decide +kernel
theorem dX12_count_140 : decode cX12_count 140 = .ok (.aload_n 0, 1) := by decide +kernel
theorem dX12_count_141 : decode cX12_count 141 = .ok (.getfield 122, 3) := by decide +kernel
theorem dX12_count_144 : decode cX12_count 144 = .ok (.isub, 1) := by decide +kernel
theorem dX12_count_145 : decode cX12_count 145 = .ok (.goto 4, 3) := by decide +kernel
theorem dX12_count_148 : decode cX12_count 148 = .ok (.iconst 0, 1) := by decide +kernel
theorem dX12_count_149 : decode cX12_count 149 = .ok (.ireturn, 1) := by decide +kernel
theorem dX12_count_150 : decode cX12_count 150 = .ok (.iload_n 1, 1) := by decide +kernel
theorem dX12_count_151 : decode cX12_count 151 = .ok (.i2l, 1) := by decide +kernel
theorem dX12_count_152 : decode cX12_count 152 = .ok (.ldc2_w 252, 3) := by decide +kernel
theorem dX12_count_155 : decode cX12_count 155 = .ok (.ldc2_w 254, 3) := by decide +kernel
theorem dX12_count_158 : decode cX12_count 158 = .ok (.invokestatic 80, 3) := by decide +kernel
theorem dX12_count_161 : decode cX12_count 161 = .ok (.ifCond .eq 15, 3) := by decide +kernel
theorem dX12_count_164 : decode cX12_count 164 = .ok (.aload_n 0, 1) := by decide +kernel
theorem dX12_count_165 : decode cX12_count 165 = .ok (.getfield 43, 3) := by decide +kernel
theorem dX12_count_168 : decode cX12_count 168 = .ok (.iload_n 1, 1) := by decide +kernel
theorem dX12_count_169 : decode cX12_count 169 = .ok (.bipush 10, 2) := by decide +kernel
theorem dX12_count_171 : decode cX12_count 171 = .ok (.isub, 1) := by decide +kernel
theorem dX12_count_172 : decode cX12_count 172 = .ok (.iaload, 1) := by decide +kernel
theorem dX12_count_173 : decode cX12_count 173 = .ok (.goto 5, 3) := by decide +kernel
theorem dX12_count_176 : decode cX12_count 176 = .ok (.bipush (-9), 2) := by decide +kernel
theorem dX12_count_178 : decode cX12_count 178 = .ok (.ireturn, 1) := by decide +kernel
