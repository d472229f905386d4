theorem dX3_solve_5 : decode cX3_solve 5 = .ok (.bipush 8, 2) := by decide +kernel
theorem dX3_solve_7 : decode cX3_solve 7 = .ok (.if_icmp .gt 9, 3) := by decide +kernel
theorem dX3_solve_10 : decode cX3_solve 10 = .ok (.lload_n 2, 1) := by decide +kernel
theorem dX3_solve_11 : decode cX3_solve 11 = .ok (.lconst 1, 1) := by decide +kernel
theorem dX3_solve_12 : decode cX3_solve 12 = .ok (.lcmp, 1) := by decide +kernel
theorem dX3_solve_13 : decode cX3_solve 13 = .ok (.ifCond .ge 6, 3) := by decide +kernel
theorem dX3_solve_16 : decode cX3_solve 16 = .ok (.bipush (-3), 2) := by decide +kernel
theorem dX3_solve_18 : decode cX3_solve 18 = .ok (.ireturn, 1) := by decide +kernel
theorem dX3_solve_19 : decode cX3_solve 19 = .ok (.aload_n 0, 1) := by decide +kernel
theorem dX3_solve_20 : decode cX3_solve 20 = .ok (.getfield 21, 3) := by decide +kernel
theorem dX3_solve_23 : decode cX3_solve 23 = .ok (.aload_n 0, 1) := by decide +kernel
theorem dX3_solve_24 : decode cX3_solve 24 = .ok (.getfield 48, 3) := by decide +kernel
theorem dX3_solve_27 : decode cX3_solve 27 = .ok (.aload_n 0, 1) := by decide +kernel
theorem dX3_solve_28 : decode cX3_solve 28 = .ok (.getfield 36, 3) := by decide +kernel
theorem dX3_solve_31 : decode cX3_solve 31 = .ok (.aload_n 0, 1) := by decide +kernel
theorem dX3_solve_32 : decode cX3_solve 32 = .ok (.getfield 42, 3) := by decide +kernel
theorem dX3_solve_35 : decode cX3_solve 35 = .ok (.invokevirtual 83, 3) := by decide +kernel
theorem dX3_solve_38 : decode cX3_solve 38 = .ok (.istore 4, 2) := by decide +kernel
theorem dX3_solve_40 : decode cX3_solve 40 = .ok (.iload 4, 2) := by decide +kernel
theorem dX3_solve_42 : decode cX3_solve 42 = .ok (.ifCond .eq 18, 3) := by decide +kernel
theorem dX3_solve_45 : decode cX3_solve 45 = .ok (.aload_n 0, 1) := by decide +kernel
theorem dX3_solve_46 : decode cX3_solve 46 = .ok (.getfield 21, 3) := by decide +kernel
theorem dX3_solve_49 : decode cX3_solve 49 = .ok (.invokevirtual 87, 3) := by decide +kernel
theorem dX3_solve_52 : decode cX3_solve 52 = .ok (.iload_n 1, 1) := by decide +kernel
theorem dX3_solve_53 : decode cX3_solve 53 = .ok (.if_icmp .gt 7, 3) := by decide +kernel
theorem dX3_solve_56 : decode cX3_solve 56 = .ok (.iconst 1, 1) := by decide +kernel
theorem dX3_solve_57 : decode cX3_solve 57 = .ok (.goto 4, 3) := by decide +kernel
theorem dX3_solve_60 : decode cX3_solve 60 = .ok (.iconst 0, 1) := by decide +kernel
theorem dX3_solve_61 : decode cX3_solve 61 = .ok (.istore 5, 2) := by decide +kernel
theorem dX3_solve_63 : decode cX3_solve 63 = .ok (.iload 5, 2) := by decide +kernel
theorem dX3_solve_65 : decode cX3_solve 65 = .ok (.ifCond .eq 13, 3) := by decide +kernel
theorem dX3_solve_68 : decode cX3_solve 68 = .ok (.aload_n 0, 1) := by decide +kernel
theorem dX3_solve_69 : decode cX3_solve 69 = .ok (.getfield 21, 3) := by decide +kernel
theorem dX3_solve_72 : decode cX3_solve 72 = .ok (.invokevirtual 87, 3) := by decide +kernel
theorem dX3_solve_75 : decode cX3_solve 75 = .ok (.goto 11, 3) := by decide +kernel
theorem dX3_solve_78 : decode cX3_solve 78 = .ok (.iload_n 1, 1) := by decide +kernel
theorem dX3_solve_79 : decode cX3_solve 79 = .ok (.aload_n 0, 1) := by decide +kernel
theorem dX3_solve_80 : decode cX3_solve 80 = .ok (.getfield 48, 3) := by decide +kernel
theorem dX3_solve_83 : decode cX3_solve 83 = .ok (.invokestatic 91, 3) := by decide +kernel
theorem dX3_solve_86 : decode cX3_solve 86 = .ok (.istore 6, 2) := by decide +kernel
theorem dX3_solve_88 : decode cX3_solve 88 = .ok (.aload_n 0, 1) := by decide +kernel
theorem dX3_solve_89 : decode cX3_solve 89 = .ok (.iload 6, 2) := by decide +kernel
theorem dX3_solve_91 : decode cX3_solve 91 = .ok (.invokevirtual 97, 3) := by decide +kernel
theorem dX3_solve_94 : decode cX3_solve 94 = .ok (.i2l, 1) := by decide +kernel
theorem dX3_solve_95 : decode cX3_solve 95 = .ok (.lload_n 2, 1) := by decide +kernel
theorem dX3_solve_96 : decode cX3_solve 96 = .ok (.lcmp, 1) := by decide +kernel
theorem dX3_solve_97 : decode cX3_solve 97 = .ok (.ifCond .le 6, 3) := by decide +kernel
theorem dX3_solve_100 : decode cX3_solve 100 = .ok (.bipush (-2), 2) := by decide +kernel
theorem dX3_solve_102 : decode cX3_solve 102 = .ok (.ireturn, 1) := by decide +kernel
theorem dX3_solve_103 : decode cX3_solve 103 = .ok (.iload 4, 2) := by decide +kernel
theorem dX3_solve_105 : decode cX3_solve 105 = .ok (.ifCond .ne 5, 3) := by decide +kernel
theorem dX3_solve_108 : decode cX3_solve 108 = .ok (.iconst (-1), 1) := by decide +kernel
theorem dX3_solve_109 : decode cX3_solve 109 = .ok (.ireturn, 1) := by decide +kernel
theorem dX3_solve_110 : decode cX3_solve 110 = .ok (.iload 5, 2) := by decide +kernel
theorem dX3_solve_112 : decode cX3_solve 112 = .ok (.ifCond .ne 23, 3) := by decide +kernel
theorem dX3_solve_115 : decode cX3_solve 115 = .ok (.aload_n 0, 1) := by decide +kernel
theorem dX3_solve_116 : decode cX3_solve 116 = .ok (.getfield 21, 3) := by decide +kernel
theorem dX3_solve_119 : decode cX3_solve 119 = .ok (.aload_n 0, 1) := by decide +kernel
theorem dX3_solve_120 : decode cX3_solve 120 = .ok (.getfield 48, 3) := by decide +kernel
theorem dX3_solve_123 : decode cX3_solve 123 = .ok (.aload_n 0, 1) := by decide +kernel
theorem dX3_solve_124 : decode cX3_solve 124 = .ok (.getfield 36, 3) := by decide +kernel
theorem dX3_solve_127 : decode cX3_solve 127 = .ok (.aload_n 0, 1) := by decide +kernel
theorem dX3_solve_128 : decode cX3_solve 128 = .ok (.getfield 42, 3) := by decide +kernel
theorem dX3_solve_131 : decode cX3_solve 131 = .ok (.invokevirtual 100, 3) := by decide +kernel
theorem dX3_solve_134 : decode cX3_solve 134 = .ok (.pop, 1) := by decide +kernel
theorem dX3_solve_135 : decode cX3_solve 135 = .ok (.aload_n 0, 1) := by decide +kernel
theorem dX3_solve_136 : decode cX3_solve 136 = .ok (.getfield 28, 3) := by decide +kernel
theorem dX3_solve_139 : decode cX3_solve 139 = .ok (.aload_n 0, 1) := by decide +kernel
theorem dX3_solve_140 : decode cX3_solve 140 = .ok (.getfield 21, 3) := by decide +kernel
theorem dX3_solve_143 : decode cX3_solve 143 = .ok (.aload_n 0, 1) := by decide +kernel
theorem dX3_solve_144 : decode cX3_solve 144 = .ok (.getfield 48, 3) := by decide +kernel
theorem dX3_solve_147 : decode cX3_solve 147 = .ok (.aload_n 0, 1) := by decide +kernel
theorem dX3_solve_148 : decode cX3_solve 148 = .ok (.getfield 36, 3) := by decide +kernel
theorem dX3_solve_151 : decode cX3_solve 151 = .ok (.invokevirtual 103, 3) := by decide +kernel
theorem dX3_solve_154 : decode cX3_solve 154 = .ok (.aload_n 0, 1) := by decide +kernel
theorem dX3_solve_155 : decode cX3_solve 155 = .ok (.getfield 21, 3) := by decide +kernel
theorem dX3_solve_158 : decode cX3_solve 158 = .ok (.invokevirtual 87, 3) := by decide +kernel
theorem dX3_solve_161 : decode cX3_solve 161 = .ok (.ireturn, 1) := by decide +kernel
set_option maxRecDepth 20000 in
theorem ggX3_chosen_X3_isName : GoodIn wsX3_chosen wsX3_isName := goodIn_r _ [6, 7, 11, 12, 13, 14, 15, 16, 17, 18, 19, 20] (by decide +kernel) (by decide +kernel)
set_option maxRecDepth 20000 in
theorem gX3_chosen_X3_isName : GoodIn wsX3_chosen (wsV RX3 63 RX3 yX3_isName wsX3_isName) := goodIn_app (goodIn_of _ (by decide +kernel)) ggX3_chosen_X3_isName
set_option maxRecDepth 20000 in
theorem ggX3_chosen_X3_versionOf : GoodIn wsX3_chosen wsX3_versionOf := goodIn_r _ [10] (by decide +kernel) (by decide +kernel)
set_option maxRecDepth 20000 in
theorem gX3_chosen_X3_versionOf : GoodIn wsX3_chosen (va_wsS RX3 110 yX3_versionOf wsX3_versionOf) := goodIn_app (goodIn_of _ (by decide +kernel)) ggX3_chosen_X3_versionOf
theorem dX3_chosen_0 : decode cX3_chosen 0 = .ok (.aload_n 0, 1) := by decide +kernel
theorem dX3_chosen_1 : decode cX3_chosen 1 = .ok (.iload_n 1, 1) := by decide +kernel
theorem dX3_chosen_2 : decode cX3_chosen 2 = .ok (.invokevirtual 63, 3) := by decide +kernel
theorem dX3_chosen_5 : decode cX3_chosen 5 = .ok (.ifCond .eq 18, 3) := by decide +kernel
theorem dX3_chosen_8 : decode cX3_chosen 8 = .ok (.aload_n 0, 1) := by decide +kernel
theorem dX3_chosen_9 : decode cX3_chosen 9 = .ok (.getfield 28, 3) := by decide +kernel
theorem dX3_chosen_12 : decode cX3_chosen 12 = .ok (.getfield 107, 3) := by decide +kernel
theorem dX3_chosen_15 : decode cX3_chosen 15 = .ok (.iload_n 1, 1) := by decide +kernel
theorem dX3_chosen_16 : decode cX3_chosen 16 = .ok (.iaload, 1) := by decide +kernel
theorem dX3_chosen_17 : decode cX3_chosen 17 = .ok (.invokestatic 110, 3) := by decide +kernel
theorem dX3_chosen_20 : decode cX3_chosen 20 = .ok (.goto 4, 3) := by decide +kernel
theorem dX3_chosen_23 : decode cX3_chosen 23 = .ok (.iconst (-1), 1) := by decide +kernel
theorem dX3_chosen_24 : decode cX3_chosen 24 = .ok (.ireturn, 1) := by decide +kernel
set_option maxRecDepth 20000 in
theorem ggX3_down_X3_ithOf : GoodIn wsX3_down wsX3_ithOf := goodIn_r _ [5] (by decide +kernel) (by decide +kernel)
set_option maxRecDepth 20000 in
theorem gX3_down_X3_ithOf : GoodIn wsX3_down (va_wsS RX3 116 yX3_ithOf wsX3_ithOf) := goodIn_app (goodIn_of _ (by decide +kernel)) ggX3_down_X3_ithOf
theorem dX3_down_0 : decode cX3_down 0 = .ok (.aload_n 0, 1) := by decide +kernel
theorem dX3_down_1 : decode cX3_down 1 = .ok (.getfield 28, 3) := by decide +kernel
theorem dX3_down_4 : decode cX3_down 4 = .ok (.getfield 113, 3) := by decide +kernel
theorem dX3_down_7 : decode cX3_down 7 = .ok (.iload_n 1, 1) := by decide +kernel
theorem dX3_down_8 : decode cX3_down 8 = .ok (.invokestatic 116, 3) := by decide +kernel
theorem dX3_down_11 : decode cX3_down 11 = .ok (.ireturn, 1) := by decide +kernel
set_option maxRecDepth 20000 in
theorem ggX3_lock_X3_ithOf : GoodIn wsX3_lock wsX3_ithOf := goodIn_r _ [6] (by decide +kernel) (by decide +kernel)
set_option maxRecDepth 20000 in
theorem gX3_lock_X3_ithOf : GoodIn wsX3_lock (va_wsS RX3 116 yX3_ithOf wsX3_ithOf) := goodIn_app (goodIn_of _ (by decide +kernel)) ggX3_lock_X3_ithOf
set_option maxRecDepth 20000 in
theorem ggX3_lock_X3_isName : GoodIn wsX3_lock wsX3_isName := goodIn_r _ [10, 11, 20, 21, 22, 23, 24, 25, 26, 27, 28, 29] (by decide +kernel) (by decide +kernel)
set_option maxRecDepth 20000 in
theorem gX3_lock_X3_isName : GoodIn wsX3_lock (wsV RX3 63 RX3 yX3_isName wsX3_isName) := goodIn_app (goodIn_of _ (by decide +kernel)) ggX3_lock_X3_isName
set_option maxRecDepth 20000 in
theorem ggX3_lock_X3_versionOf : GoodIn wsX3_lock wsX3_versionOf := goodIn_r _ [14] (by decide +kernel) (by decide +kernel)
set_option maxRecDepth 20000 in
theorem gX3_lock_X3_versionOf : GoodIn wsX3_lock (va_wsS RX3 110 yX3_versionOf wsX3_versionOf) := goodIn_app (goodIn_of _ (by decide +kernel)) ggX3_lock_X3_versionOf
set_option maxRecDepth 20000 in
theorem ggX3_lock_X3_digestOf : GoodIn wsX3_lock wsX3_digestOf := goodIn_r _ [17, 18, 19] (by decide +kernel) (by decide +kernel)
set_option maxRecDepth 20000 in
theorem gX3_lock_X3_digestOf : GoodIn wsX3_lock (va_wsS RX3 122 yX3_digestOf wsX3_digestOf) := goodIn_app (goodIn_of _ (by decide +kernel)) ggX3_lock_X3_digestOf
theorem dX3_lock_0 : decode cX3_lock 0 = .ok (.aload_n 0, 1) := by decide +kernel
theorem dX3_lock_1 : decode cX3_lock 1 = .ok (.getfield 28, 3) := by decide +kernel
theorem dX3_lock_4 : decode cX3_lock 4 = .ok (.getfield 119, 3) := by decide +kernel
theorem dX3_lock_7 : decode cX3_lock 7 = .ok (.iload_n 1, 1) := by decide +kernel
theorem dX3_lock_8 : decode cX3_lock 8 = .ok (.invokestatic 116, 3) := by decide +kernel
theorem dX3_lock_11 : decode cX3_lock 11 = .ok (.istore_n 3, 1) := by decide +kernel
theorem dX3_lock_12 : decode cX3_lock 12 = .ok (.aload_n 0, 1) := by decide +kernel
theorem dX3_lock_13 : decode cX3_lock 13 = .ok (.iload_n 3, 1) := by decide +kernel
theorem dX3_lock_14 : decode cX3_lock 14 = .ok (.invokevirtual 63, 3) := by decide +kernel
theorem dX3_lock_17 : decode cX3_lock 17 = .ok (.ifCond .ne 5, 3) := by decide +kernel
theorem dX3_lock_20 : decode cX3_lock 20 = .ok (.iconst (-1), 1) := by decide +kernel
theorem dX3_lock_21 : decode cX3_lock 21 = .ok (.ireturn, 1) := by decide +kernel
theorem dX3_lock_22 : decode cX3_lock 22 = .ok (.aload_n 0, 1) := by decide +kernel
theorem dX3_lock_23 : decode cX3_lock 23 = .ok (.getfield 28, 3) := by decide +kernel
theorem dX3_lock_26 : decode cX3_lock 26 = .ok (.getfield 107, 3) := by decide +kernel
theorem dX3_lock_29 : decode cX3_lock 29 = .ok (.iload_n 3, 1) := by decide +kernel
theorem dX3_lock_30 : decode cX3_lock 30 = .ok (.iaload, 1) := by decide +kernel
theorem dX3_lock_31 : decode cX3_lock 31 = .ok (.invokestatic 110, 3) := by decide +kernel
theorem dX3_lock_34 : decode cX3_lock 34 = .ok (.istore 4, 2) := by decide +kernel
theorem dX3_lock_36 : decode cX3_lock 36 = .ok (.iload_n 2, 1) := by decide +kernel
theorem dX3_lock_37 : decode cX3_lock 37 = .ok (.tableswitch 60 0 3 #[31, 33, 36, 48], 31) := by decide +kernel
theorem dX3_lock_68 : decode cX3_lock 68 = .ok (.iload_n 3, 1) := by decide +kernel
theorem dX3_lock_69 : decode cX3_lock 69 = .ok (.ireturn, 1) := by decide +kernel
theorem dX3_lock_70 : decode cX3_lock 70 = .ok (.iload 4, 2) := by decide +kernel
theorem dX3_lock_72 : decode cX3_lock 72 = .ok (.ireturn, 1) := by decide +kernel
theorem dX3_lock_73 : decode cX3_lock 73 = .ok (.iload_n 3, 1) := by decide +kernel
theorem dX3_lock_74 : decode cX3_lock 74 = .ok (.iload 4, 2) := by decide +kernel
theorem dX3_lock_76 : decode cX3_lock 76 = .ok (.invokestatic 122, 3) := by decide +kernel
theorem dX3_lock_79 : decode cX3_lock 79 = .ok (.ldc2_w 126, 3) := by decide +kernel
theorem dX3_lock_82 : decode cX3_lock 82 = .ok (.lrem, 1) := by decide +kernel
theorem dX3_lock_83 : decode cX3_lock 83 = .ok (.l2i, 1) := by decide +kernel
theorem dX3_lock_84 : decode cX3_lock 84 = .ok (.ireturn, 1) := by decide +kernel
theorem dX3_lock_85 : decode cX3_lock 85 = .ok (.aload_n 0, 1) := by decide +kernel
theorem dX3_lock_86 : decode cX3_lock 86 = .ok (.getfield 28, 3) := by decide +kernel
theorem dX3_lock_89 : decode cX3_lock 89 = .ok (.getfield 128, 3) := by decide +kernel
theorem dX3_lock_92 : decode cX3_lock 92 = .ok (.iload_n 3, 1) := by decide +kernel
theorem dX3_lock_93 : decode cX3_lock 93 = .ok (.ishr, 1) := by decide +kernel
theorem dX3_lock_94 : decode cX3_lock 94 = .ok (.iconst 1, 1) := by decide +kernel
theorem dX3_lock_95 : decode cX3_lock 95 = .ok (.iand, 1) := by decide +kernel
theorem dX3_lock_96 : decode cX3_lock 96 = .ok (.ireturn, 1) := by decide +kernel
theorem dX3_lock_97 : decode cX3_lock 97 = .ok (.bipush (-2), 2) := by decide +kernel
theorem dX3_lock_99 : decode cX3_lock 99 = .ok (.ireturn, 1) := by decide +kernel
set_option maxRecDepth 20000 in
theorem ggX3_digest_X3_isName : GoodIn wsX3_digest wsX3_isName := goodIn_r _ [10, 11, 20, 21, 22, 23, 24, 25, 26, 27, 28, 29] (by decide +kernel) (by decide +kernel)
set_option maxRecDepth 20000 in
theorem gX3_digest_X3_isName : GoodIn wsX3_digest (wsV RX3 63 RX3 yX3_isName wsX3_isName) := goodIn_app (goodIn_of _ (by decide +kernel)) ggX3_digest_X3_isName
set_option maxRecDepth 20000 in
theorem ggX3_digest_X3_versionOf : GoodIn wsX3_digest wsX3_versionOf := goodIn_r _ [14] (by decide +kernel) (by decide +kernel)
set_option maxRecDepth 20000 in
theorem gX3_digest_X3_versionOf : GoodIn wsX3_digest (va_wsS RX3 110 yX3_versionOf wsX3_versionOf) := goodIn_app (goodIn_of _ (by decide +kernel)) ggX3_digest_X3_versionOf
set_option maxRecDepth 20000 in
theorem ggX3_digest_X3_digestOf : GoodIn wsX3_digest wsX3_digestOf := goodIn_r _ [17, 18, 19] (by decide +kernel) (by decide +kernel)
set_option maxRecDepth 20000 in
theorem gX3_digest_X3_digestOf : GoodIn wsX3_digest (va_wsS RX3 122 yX3_digestOf wsX3_digestOf) := goodIn_app (goodIn_of _ (by decide +kernel)) ggX3_digest_X3_digestOf
theorem dX3_digest_0 : decode cX3_digest 0 = .ok (.aload_n 0, 1) := by decide +kernel
theorem dX3_digest_1 : decode cX3_digest 1 = .ok (.iload_n 1, 1) := by decide +kernel
theorem dX3_digest_2 : decode cX3_digest 2 = .ok (.invokevirtual 63, 3) := by decide +kernel
theorem dX3_digest_5 : decode cX3_digest 5 = .ok (.ifCond .ne 7, 3) := by decide +kernel
theorem dX3_digest_8 : decode cX3_digest 8 = .ok (.ldc2_w 131, 3) := by decide +kernel
theorem dX3_digest_11 : decode cX3_digest 11 = .ok (.lreturn, 1) := by decide +kernel
theorem dX3_digest_12 : decode cX3_digest 12 = .ok (.aload_n 0, 1) := by decide +kernel
theorem dX3_digest_13 : decode cX3_digest 13 = .ok (.getfield 36, 3) := by decide +kernel
theorem dX3_digest_16 : decode cX3_digest 16 = .ok (.iload_n 1, 1) := by decide +kernel
theorem dX3_digest_17 : decode cX3_digest 17 = .ok (.iaload, 1) := by decide +kernel
theorem dX3_digest_18 : decode cX3_digest 18 = .ok (.istore 4, 2) := by decide +kernel
theorem dX3_digest_20 : decode cX3_digest 20 = .ok (.iload 4, 2) := by decide +kernel
theorem dX3_digest_22 : decode cX3_digest 22 = .ok (.ifCond .eq 14, 3) := by decide +kernel
theorem dX3_digest_25 : decode cX3_digest 25 = .ok (.iload 4, 2) := by decide +kernel
theorem dX3_digest_27 : decode cX3_digest 27 = .ok (.aload_n 0, 1) := by decide +kernel
theorem dX3_digest_28 : decode cX3_digest 28 = .ok (.getfield 32, 3) := by decide +kernel
theorem dX3_digest_31 : decode cX3_digest 31 = .ok (.iload_n 1, 1) := by decide +kernel
theorem dX3_digest_32 : decode cX3_digest 32 = .ok (.iaload, 1) := by decide +kernel
theorem dX3_digest_33 : decode cX3_digest 33 = .ok (.if_icmp .le 7, 3) := by decide +kernel
theorem dX3_digest_36 : decode cX3_digest 36 = .ok (.ldc2_w 133, 3) := by decide +kernel
theorem dX3_digest_39 : decode cX3_digest 39 = .ok (.lreturn, 1) := by decide +kernel
theorem dX3_digest_40 : decode cX3_digest 40 = .ok (.iload_n 1, 1) := by decide +kernel
theorem dX3_digest_41 : decode cX3_digest 41 = .ok (.iload 4, 2) := by decide +kernel
theorem dX3_digest_43 : decode cX3_digest 43 = .ok (.invokestatic 110, 3) := by decide +kernel
theorem dX3_digest_46 : decode cX3_digest 46 = .ok (.invokestatic 122, 3) := by decide +kernel
theorem dX3_digest_49 : decode cX3_digest 49 = .ok (.lstore 5, 2) := by decide +kernel
theorem dX3_digest_51 : decode cX3_digest 51 = .ok (.lload_n 2, 1) := by decide +kernel
theorem dX3_digest_52 : decode cX3_digest 52 = .ok (.lload 5, 2) := by decide +kernel
theorem dX3_digest_54 : decode cX3_digest 54 = .ok (.lcmp, 1) := by decide +kernel
theorem dX3_digest_55 : decode cX3_digest 55 = .ok (.ifCond .ne 21, 3) := by decide +kernel
theorem dX3_digest_58 : decode cX3_digest 58 = .ok (.aload_n 0, 1) := by decide +kernel
theorem dX3_digest_59 : decode cX3_digest 59 = .ok (.getfield 42, 3) := by decide +kernel
theorem dX3_digest_62 : decode cX3_digest 62 = .ok (.iload_n 1, 1) := by decide +kernel
theorem dX3_digest_63 : decode cX3_digest 63 = .ok (.dup2, 1) := by decide +kernel
theorem dX3_digest_64 : decode cX3_digest 64 = .ok (.iaload, 1) := by decide +kernel
theorem dX3_digest_65 : decode cX3_digest 65 = .ok (.iconst 1, 1) := by decide +kernel
theorem dX3_digest_66 : decode cX3_digest 66 = .ok (.iload 4, 2) := by decide +kernel
theorem dX3_digest_68 : decode cX3_digest 68 = .ok (.ishl, 1) := by decide +kernel
theorem dX3_digest_69 : decode cX3_digest 69 = .ok (.iconst (-1), 1) := by decide +kernel
theorem dX3_digest_70 : decode cX3_digest 70 = .ok (.ixor, 1) := by decide +kernel
theorem dX3_digest_71 : decode cX3_digest 71 = .ok (.iand, 1) := by decide +kernel
theorem dX3_digest_72 : decode cX3_digest 72 = .ok (.iastore, 1) := by decide +kernel
theorem dX3_digest_73 : decode cX3_digest 73 = .ok (.goto 16, 3) := by decide +kernel
theorem dX3_digest_76 : decode cX3_digest 76 = .ok (.aload_n 0, 1) := by decide +kernel
theorem dX3_digest_77 : decode cX3_digest 77 = .ok (.getfield 42, 3) := by decide +kernel
theorem dX3_digest_80 : decode cX3_digest 80 = .ok (.iload_n 1, 1) := by decide +kernel
theorem dX3_digest_81 : decode cX3_digest 81 = .ok (.dup2, 1) := by decide +kernel
theorem dX3_digest_82 : decode cX3_digest 82 = .ok (.iaload, 1) := by decide +kernel
theorem dX3_digest_83 : decode cX3_digest 83 = .ok (.iconst 1, 1) := by decide +kernel
theorem dX3_digest_84 : decode cX3_digest 84 = .ok (.iload 4, 2) := by decide +kernel
theorem dX3_digest_86 : decode cX3_digest 86 = .ok (.ishl, 1) := by decide +kernel
theorem dX3_digest_87 : decode cX3_digest 87 = .ok (.ior, 1) := by decide +kernel
theorem dX3_digest_88 : decode cX3_digest 88 = .ok (.iastore, 1) := by decide +kernel
theorem dX3_digest_89 : decode cX3_digest 89 = .ok (.lload 5, 2) := by decide +kernel
theorem dX3_digest_91 : decode cX3_digest 91 = .ok (.lreturn, 1) := by decide +kernel
set_option maxRecDepth 20000 in
theorem ggX3_merge_X2_findBest : GoodIn wsX3_merge wsX2_findBest := goodIn_ca (goodIn_r _ [14, 15, 16, 17, 18, 12, 19, 20, 21, 22, 23, 24, 25, 26, 27, 28, 29, 30, 31, 32, 33, 34, 35, 36, 37, 38, 39, 40, 41, 42, 43, 44, 45, 46, 47, 48, 49, 50, 51, 52, 53, 54, 55, 56, 57, 58, 59, 60, 61, 62, 63, 64, 65, 66, 67, 68, 94, 95, 96, 97, 98, 99, 100, 101, 102, 103, 104] (by decide +kernel) (by decide +kernel)) (goodIn_sub (fun _ h => List.mem_cons_of_mem _ (List.mem_append_right _ h)) (by decide +kernel))
set_option maxRecDepth 20000 in
theorem gX3_merge_X2_findBest_n83 : GoodIn wsX3_merge (wsX2_findBest) := ggX3_merge_X2_findBest
set_option maxRecDepth 20000 in
theorem ggX3_merge_X0_keep : GoodIn wsX3_merge wsX0_keep := goodIn_ca (goodIn_r _ [72, 73, 74, 75, 76, 77, 12, 78, 79, 34, 43, 44, 45, 46, 47, 105, 106, 107, 108, 94, 95, 96, 97, 98, 99, 100, 101, 102] (by decide +kernel) (by decide +kernel)) (goodIn_sub (fun _ h => List.mem_cons_of_mem _ (List.mem_append_right _ h)) (by decide +kernel))
set_option maxRecDepth 20000 in
theorem gX3_merge_X0_keep_n103 : GoodIn wsX3_merge (wsX0_keep) := ggX3_merge_X0_keep
set_option maxRecDepth 20000 in
theorem ggX3_merge_X3_lockToFound : GoodIn wsX3_merge wsX3_lockToFound := goodIn_ca (goodIn_r _ [83, 1, 10, 3, 9, 84, 85, 86, 87, 88, 89, 90, 91, 92, 93, 105, 106, 107, 108] (by decide +kernel) (by decide +kernel)) (goodIn_sub (fun _ h => List.mem_cons_of_mem _ (List.mem_append_right _ h)) (by decide +kernel))
set_option maxRecDepth 20000 in
theorem gX3_merge_X3_lockToFound : GoodIn wsX3_merge (wsV RX3 138 RX3 yX3_lockToFound wsX3_lockToFound) := goodIn_app (goodIn_of _ (by decide +kernel)) ggX3_merge_X3_lockToFound
theorem dX3_merge_0 : decode cX3_merge 0 = .ok (.iload_n 1, 1) := by decide +kernel
theorem dX3_merge_1 : decode cX3_merge 1 = .ok (.ifCond .lt 14, 3) := by decide +kernel
theorem dX3_merge_4 : decode cX3_merge 4 = .ok (.iload_n 1, 1) := by decide +kernel
theorem dX3_merge_5 : decode cX3_merge 5 = .ok (.iconst 3, 1) := by decide +kernel
theorem dX3_merge_6 : decode cX3_merge 6 = .ok (.aload_n 0, 1) := by decide +kernel
theorem dX3_merge_7 : decode cX3_merge 7 = .ok (.getfield 48, 3) := by decide +kernel
theorem dX3_merge_10 : decode cX3_merge 10 = .ok (.imul, 1) := by decide +kernel
theorem dX3_merge_11 : decode cX3_merge 11 = .ok (.ishr, 1) := by decide +kernel
theorem dX3_merge_12 : decode cX3_merge 12 = .ok (.ifCond .eq 6, 3) := by decide +kernel
theorem dX3_merge_15 : decode cX3_merge 15 = .ok (.bipush (-2), 2) := by decide +kernel
theorem dX3_merge_17 : decode cX3_merge 17 = .ok (.ireturn, 1) := by decide +kernel
theorem dX3_merge_18 : decode cX3_merge 18 = .ok (.iconst 0, 1) := by decide +kernel
theorem dX3_merge_19 : decode cX3_merge 19 = .ok (.istore_n 2, 1) := by decide +kernel
theorem dX3_merge_20 : decode cX3_merge 20 = .ok (.iload_n 2, 1) := by decide +kernel
theorem dX3_merge_21 : decode cX3_merge 21 = .ok (.aload_n 0, 1) := by decide +kernel
theorem dX3_merge_22 : decode cX3_merge 22 = .ok (.getfield 48, 3) := by decide +kernel
theorem dX3_merge_25 : decode cX3_merge 25 = .ok (.if_icmp .ge 32, 3) := by decide +kernel
theorem dX3_merge_28 : decode cX3_merge 28 = .ok (.aload_n 0, 1) := by decide +kernel
theorem dX3_merge_29 : decode cX3_merge 29 = .ok (.getfield 39, 3) := by decide +kernel
theorem dX3_merge_32 : decode cX3_merge 32 = .ok (.iload_n 2, 1) := by decide +kernel
theorem dX3_merge_33 : decode cX3_merge 33 = .ok (.aload_n 0, 1) := by decide +kernel
theorem dX3_merge_34 : decode cX3_merge 34 = .ok (.getfield 36, 3) := by decide +kernel
theorem dX3_merge_37 : decode cX3_merge 37 = .ok (.iload_n 2, 1) := by decide +kernel
theorem dX3_merge_38 : decode cX3_merge 38 = .ok (.iaload, 1) := by decide +kernel
theorem dX3_merge_39 : decode cX3_merge 39 = .ok (.iload_n 1, 1) := by decide +kernel
theorem dX3_merge_40 : decode cX3_merge 40 = .ok (.iconst 3, 1) := by decide +kernel
theorem dX3_merge_41 : decode cX3_merge 41 = .ok (.iload_n 2, 1) := by decide +kernel
theorem dX3_merge_42 : decode cX3_merge 42 = .ok (.imul, 1) := by decide +kernel
theorem dX3_merge_43 : decode cX3_merge 43 = .ok (.ishr, 1) := by decide +kernel
theorem dX3_merge_44 : decode cX3_merge 44 = .ok (.bipush 7, 2) := by decide +kernel
theorem dX3_merge_46 : decode cX3_merge 46 = .ok (.iand, 1) := by decide +kernel
theorem dX3_merge_47 : decode cX3_merge 47 = .ok (.invokestatic 135, 3) := by decide +kernel
theorem dX3_merge_50 : decode cX3_merge 50 = .ok (.iastore, 1) := by decide +kernel
theorem dX3_merge_51 : decode cX3_merge 51 = .ok (.iinc 2 1, 3) := by decide +kernel
theorem dX3_merge_54 : decode cX3_merge 54 = .ok (.goto (-34), 3) := by decide +kernel
theorem dX3_merge_57 : decode cX3_merge 57 = .ok (.aload_n 0, 1) := by decide +kernel
theorem dX3_merge_58 : decode cX3_merge 58 = .ok (.getfield 21, 3) := by decide +kernel
theorem dX3_merge_61 : decode cX3_merge 61 = .ok (.aload_n 0, 1) := by decide +kernel
theorem dX3_merge_62 : decode cX3_merge 62 = .ok (.getfield 48, 3) := by decide +kernel
theorem dX3_merge_65 : decode cX3_merge 65 = .ok (.aload_n 0, 1) := by decide +kernel
theorem dX3_merge_66 : decode cX3_merge 66 = .ok (.getfield 39, 3) := by decide +kernel
theorem dX3_merge_69 : decode cX3_merge 69 = .ok (.aload_n 0, 1) := by decide +kernel
theorem dX3_merge_70 : decode cX3_merge 70 = .ok (.getfield 42, 3) := by decide +kernel
theorem dX3_merge_73 : decode cX3_merge 73 = .ok (.invokevirtual 83, 3) := by decide +kernel
theorem dX3_merge_76 : decode cX3_merge 76 = .ok (.ifCond .ne 5, 3) := by decide +kernel
theorem dX3_merge_79 : decode cX3_merge 79 = .ok (.iconst 0, 1) := by decide +kernel
theorem dX3_merge_80 : decode cX3_merge 80 = .ok (.ireturn, 1) := by decide +kernel
theorem dX3_merge_81 : decode cX3_merge 81 = .ok (.aload_n 0, 1) := by decide +kernel
theorem dX3_merge_82 : decode cX3_merge 82 = .ok (.getfield 28, 3) := by decide +kernel
theorem dX3_merge_85 : decode cX3_merge 85 = .ok (.aload_n 0, 1) := by decide +kernel
theorem dX3_merge_86 : decode cX3_merge 86 = .ok (.getfield 21, 3) := by decide +kernel
theorem dX3_merge_89 : decode cX3_merge 89 = .ok (.aload_n 0, 1) := by decide +kernel
theorem dX3_merge_90 : decode cX3_merge 90 = .ok (.getfield 48, 3) := by decide +kernel
theorem dX3_merge_93 : decode cX3_merge 93 = .ok (.aload_n 0, 1) := by decide +kernel
theorem dX3_merge_94 : decode cX3_merge 94 = .ok (.getfield 39, 3) := by decide +kernel
theorem dX3_merge_97 : decode cX3_merge 97 = .ok (.invokevirtual 103, 3) := by decide +kernel
theorem dX3_merge_100 : decode cX3_merge 100 = .ok (.aload_n 0, 1) := by decide +kernel
theorem dX3_merge_101 : decode cX3_merge 101 = .ok (.invokevirtual 138, 3) := by decide +kernel
theorem dX3_merge_104 : decode cX3_merge 104 = .ok (.iconst 1, 1) := by decide +kernel
theorem dX3_merge_105 : decode cX3_merge 105 = .ok (.ireturn, 1) := by decide +kernel
theorem dX3_row_0 : decode cX3_row 0 = .ok (.iload_n 1, 1) := by decide +kernel
theorem dX3_row_1 : decode cX3_row 1 = .ok (.ifCond .lt 11, 3) := by decide +kernel
theorem dX3_row_4 : decode cX3_row 4 = .ok (.iload_n 1, 1) := by decide +kernel
theorem dX3_row_5 : decode cX3_row 5 = .ok (.aload_n 0, 1) := by decide +kernel
theorem dX3_row_6 : decode cX3_row 6 = .ok (.getfield 52, 3) := by decide +kernel
theorem dX3_row_9 : decode cX3_row 9 = .ok (.if_icmp .lt 13, 3) := by decide +kernel
theorem dX3_row_12 : decode cX3_row 12 = .ok (.new 141, 3) := by decide +kernel
theorem dX3_row_15 : decode cX3_row 15 = .ok (.dup, 1) := by decide +kernel
theorem dX3_row_16 : decode cX3_row 16 = .ok (.ldc 143, 2) := by decide +kernel
theorem dX3_row_18 : decode cX3_row 18 = .ok (.invokespecial 145, 3) := by decide +kernel
theorem dX3_row_21 : decode cX3_row 21 = .ok (.athrow, 1) := by decide +kernel
theorem dX3_row_22 : decode cX3_row 22 = .ok (.aload_n 0, 1) := by decide +kernel
theorem dX3_row_23 : decode cX3_row 23 = .ok (.getfield 45, 3) := by decide +kernel
theorem dX3_row_26 : decode cX3_row 26 = .ok (.iload_n 1, 1) := by decide +kernel
theorem dX3_row_27 : decode cX3_row 27 = .ok (.iaload, 1) := by decide +kernel
theorem dX3_row_28 : decode cX3_row 28 = .ok (.ireturn, 1) := by decide +kernel
theorem dX3_isName_0 : decode cX3_isName 0 = .ok (.iload_n 1, 1) := by decide +kernel
theorem dX3_isName_1 : decode cX3_isName 1 = .ok (.ifCond .lt 15, 3) := by decide +kernel
theorem dX3_isName_4 : decode cX3_isName 4 = .ok (.iload_n 1, 1) := by decide +kernel
theorem dX3_isName_5 : decode cX3_isName 5 = .ok (.aload_n 0, 1) := by decide +kernel
theorem dX3_isName_6 : decode cX3_isName 6 = .ok (.getfield 48, 3) := by decide +kernel
theorem dX3_isName_9 : decode cX3_isName 9 = .ok (.if_icmp .ge 7, 3) := by decide +kernel
theorem dX3_isName_12 : decode cX3_isName 12 = .ok (.iconst 1, 1) := by decide +kernel
theorem dX3_isName_13 : decode cX3_isName 13 = .ok (.goto 4, 3) := by decide +kernel
theorem dX3_isName_16 : decode cX3_isName 16 = .ok (.iconst 0, 1) := by decide +kernel
theorem dX3_isName_17 : decode cX3_isName 17 = .ok (.ireturn, 1) := by decide +kernel
set_option maxRecDepth 20000 in
theorem ggX3_addSetRow_X3_isName : GoodIn wsX3_addSetRow wsX3_isName := goodIn_r _ [7, 8, 19, 20, 21, 22, 23, 24, 25, 26, 27, 28] (by decide +kernel) (by decide +kernel)
set_option maxRecDepth 20000 in
theorem gX3_addSetRow_X3_isName : GoodIn wsX3_addSetRow (wsV RX3 63 RX3 yX3_isName wsX3_isName) := goodIn_app (goodIn_of _ (by decide +kernel)) ggX3_addSetRow_X3_isName
set_option maxRecDepth 20000 in
theorem ggX3_addSetRow_X1_narrow : GoodIn wsX3_addSetRow wsX1_narrow := goodIn_ca (goodIn_r _ [12, 13, 29, 30] (by decide +kernel) (by decide +kernel)) (goodIn_sub (fun _ h => List.mem_cons_of_mem _ (List.mem_append_right _ h)) (by decide +kernel))
set_option maxRecDepth 20000 in
theorem gX3_addSetRow_X1_narrow_n148 : GoodIn wsX3_addSetRow (wsX1_narrow) := ggX3_addSetRow_X1_narrow
set_option maxRecDepth 20000 in
theorem ggX3_addSetRow_X3_addRow : GoodIn wsX3_addSetRow wsX3_addRow := goodIn_ca (goodIn_r _ [17, 1, 18, 19, 20, 21, 22, 23, 24, 25, 26, 27, 28] (by decide +kernel) (by decide +kernel)) (goodIn_sub (fun _ h => List.mem_cons_of_mem _ (List.mem_append_right _ h)) (by decide +kernel))
set_option maxRecDepth 20000 in
theorem gX3_addSetRow_X3_addRow : GoodIn wsX3_addSetRow (wsV RX3 75 RX3 yX3_addRow wsX3_addRow) := goodIn_app (goodIn_of _ (by decide +kernel)) ggX3_addSetRow_X3_addRow
theorem dX3_addSetRow_0 : decode cX3_addSetRow 0 = .ok (.aload_n 0, 1) := by decide +kernel
theorem dX3_addSetRow_1 : decode cX3_addSetRow 1 = .ok (.iload_n 2, 1) := by decide +kernel
theorem dX3_addSetRow_2 : decode cX3_addSetRow 2 = .ok (.invokevirtual 63, 3) := by decide +kernel
theorem dX3_addSetRow_5 : decode cX3_addSetRow 5 = .ok (.ifCond .ne 5, 3) := by decide +kernel
theorem dX3_addSetRow_8 : decode cX3_addSetRow 8 = .ok (.iconst (-1), 1) := by decide +kernel
theorem dX3_addSetRow_9 : decode cX3_addSetRow 9 = .ok (.ireturn, 1) := by decide +kernel
theorem dX3_addSetRow_10 : decode cX3_addSetRow 10 = .ok (.aload_n 0, 1) := by decide +kernel
theorem dX3_addSetRow_11 : decode cX3_addSetRow 11 = .ok (.getfield 52, 3) := by decide +kernel
theorem dX3_addSetRow_14 : decode cX3_addSetRow 14 = .ok (.bipush 60, 2) := by decide +kernel
theorem dX3_addSetRow_16 : decode cX3_addSetRow 16 = .ok (.if_icmp .lt 6, 3) := by decide +kernel
theorem dX3_addSetRow_19 : decode cX3_addSetRow 19 = .ok (.bipush (-4), 2) := by decide +kernel
theorem dX3_addSetRow_21 : decode cX3_addSetRow 21 = .ok (.ireturn, 1) := by decide +kernel
theorem dX3_addSetRow_22 : decode cX3_addSetRow 22 = .ok (.aload_n 0, 1) := by decide +kernel
theorem dX3_addSetRow_23 : decode cX3_addSetRow 23 = .ok (.getfield 12, 3) := by decide +kernel
theorem dX3_addSetRow_26 : decode cX3_addSetRow 26 = .ok (.iload_n 2, 1) := by decide +kernel
theorem dX3_addSetRow_27 : decode cX3_addSetRow 27 = .ok (.iload_n 3, 1) := by decide +kernel
theorem dX3_addSetRow_28 : decode cX3_addSetRow 28 = .ok (.invokevirtual 148, 3) := by decide +kernel
theorem dX3_addSetRow_31 : decode cX3_addSetRow 31 = .ok (.aload_n 0, 1) := by decide +kernel
theorem dX3_addSetRow_32 : decode cX3_addSetRow 32 = .ok (.iload_n 1, 1) := by decide +kernel
theorem dX3_addSetRow_33 : decode cX3_addSetRow 33 = .ok (.iload_n 2, 1) := by decide +kernel
theorem dX3_addSetRow_34 : decode cX3_addSetRow 34 = .ok (.iconst 0, 1) := by decide +kernel
theorem dX3_addSetRow_35 : decode cX3_addSetRow 35 = .ok (.iconst 0, 1) := by decide +kernel
theorem dX3_addSetRow_36 : decode cX3_addSetRow 36 = .ok (.invokevirtual 75, 3) := by decide +kernel
theorem dX3_addSetRow_39 : decode cX3_addSetRow 39 = .ok (.ireturn, 1) := by decide +kernel
theorem dX3_addRow_0 : decode cX3_addRow 0 = .ok (.aload_n 0, 1) := by decide +kernel
theorem dX3_addRow_1 : decode cX3_addRow 1 = .ok (.getfield 52, 3) := by decide +kernel
theorem dX3_addRow_4 : decode cX3_addRow 4 = .ok (.istore 5, 2) := by decide +kernel
theorem dX3_addRow_6 : decode cX3_addRow 6 = .ok (.aload_n 0, 1) := by decide +kernel
theorem dX3_addRow_7 : decode cX3_addRow 7 = .ok (.getfield 45, 3) := by decide +kernel
theorem dX3_addRow_10 : decode cX3_addRow 10 = .ok (.iload 5, 2) := by decide +kernel
theorem dX3_addRow_12 : decode cX3_addRow 12 = .ok (.iload_n 1, 1) := by decide +kernel
theorem dX3_addRow_13 : decode cX3_addRow 13 = .ok (.bipush 8, 2) := by decide +kernel
theorem dX3_addRow_15 : decode cX3_addRow 15 = .ok (.imul, 1) := by decide +kernel
theorem dX3_addRow_16 : decode cX3_addRow 16 = .ok (.iload_n 2, 1) := by decide +kernel
theorem dX3_addRow_17 : decode cX3_addRow 17 = .ok (.iadd, 1) := by decide +kernel
theorem dX3_addRow_18 : decode cX3_addRow 18 = .ok (.bipush 8, 2) := by decide +kernel
theorem dX3_addRow_20 : decode cX3_addRow 20 = .ok (.imul, 1) := by decide +kernel
theorem dX3_addRow_21 : decode cX3_addRow 21 = .ok (.iload_n 3, 1) := by decide +kernel
theorem dX3_addRow_22 : decode cX3_addRow 22 = .ok (.iadd, 1) := by decide +kernel
theorem dX3_addRow_23 : decode cX3_addRow 23 = .ok (.bipush 8, 2) := by decide +kernel
theorem dX3_addRow_25 : decode cX3_addRow 25 = .ok (.imul, 1) := by decide +kernel
theorem dX3_addRow_26 : decode cX3_addRow 26 = .ok (.iload 4, 2) := by decide +kernel
theorem dX3_addRow_28 : decode cX3_addRow 28 = .ok (.iadd, 1) := by decide +kernel
theorem dX3_addRow_29 : decode cX3_addRow 29 = .ok (.iastore, 1) := by decide +kernel
theorem dX3_addRow_30 : decode cX3_addRow 30 = .ok (.aload_n 0, 1) := by decide +kernel
theorem dX3_addRow_31 : decode cX3_addRow 31 = .ok (.dup, 1) := by decide +kernel
theorem dX3_addRow_32 : decode cX3_addRow 32 = .ok (.getfield 52, 3) := by decide +kernel
theorem dX3_addRow_35 : decode cX3_addRow 35 = .ok (.iconst 1, 1) := by decide +kernel
theorem dX3_addRow_36 : decode cX3_addRow 36 = .ok (.iadd, 1) := by decide +kernel
theorem dX3_addRow_37 : decode cX3_addRow 37 = .ok (.putfield 52, 3) := by decide +kernel
theorem dX3_addRow_40 : decode cX3_addRow 40 = .ok (.iload 5, 2) := by decide +kernel
theorem dX3_addRow_42 : decode cX3_addRow 42 = .ok (.ireturn, 1) := by decide +kernel
theorem dX3_lockToFound_0 : decode cX3_lockToFound 0 = .ok (.iconst 0, 1) := by decide +kernel
theorem dX3_lockToFound_1 : decode cX3_lockToFound 1 = .ok (.istore_n 1, 1) := by decide +kernel
theorem dX3_lockToFound_2 : decode cX3_lockToFound 2 = .ok (.iload_n 1, 1) := by decide +kernel
theorem dX3_lockToFound_3 : decode cX3_lockToFound 3 = .ok (.aload_n 0, 1) := by decide +kernel
theorem dX3_lockToFound_4 : decode cX3_lockToFound 4 = .ok (.getfield 48, 3) := by decide +kernel
theorem dX3_lockToFound_7 : decode cX3_lockToFound 7 = .ok (.if_icmp .ge 49, 3) := by decide +kernel
theorem dX3_lockToFound_10 : decode cX3_lockToFound 10 = .ok (.aload_n 0, 1) := by decide +kernel
theorem dX3_lockToFound_11 : decode cX3_lockToFound 11 = .ok (.getfield 28, 3) := by decide +kernel
theorem dX3_lockToFound_14 : decode cX3_lockToFound 14 = .ok (.getfield 107, 3) := by decide +kernel
theorem dX3_lockToFound_17 : decode cX3_lockToFound 17 = .ok (.iload_n 1, 1) := by decide +kernel
theorem dX3_lockToFound_18 : decode cX3_lockToFound 18 = .ok (.iaload, 1) := by decide +kernel
theorem dX3_lockToFound_19 : decode cX3_lockToFound 19 = .ok (.aload_n 0, 1) := by decide +kernel
theorem dX3_lockToFound_20 : decode cX3_lockToFound 20 = .ok (.getfield 36, 3) := by decide +kernel
theorem dX3_lockToFound_23 : decode cX3_lockToFound 23 = .ok (.iload_n 1, 1) := by decide +kernel
theorem dX3_lockToFound_24 : decode cX3_lockToFound 24 = .ok (.iaload, 1) := by decide +kernel
theorem dX3_lockToFound_25 : decode cX3_lockToFound 25 = .ok (.if_icmp .eq 25, 3) := by decide +kernel
theorem dX3_lockToFound_28 : decode cX3_lockToFound 28 = .ok (.aload_n 0, 1) := by decide +kernel
theorem dX3_lockToFound_29 : decode cX3_lockToFound 29 = .ok (.getfield 36, 3) := by decide +kernel
theorem dX3_lockToFound_32 : decode cX3_lockToFound 32 = .ok (.iload_n 1, 1) := by decide +kernel
theorem dX3_lockToFound_33 : decode cX3_lockToFound 33 = .ok (.aload_n 0, 1) := by decide +kernel
theorem dX3_lockToFound_34 : decode cX3_lockToFound 34 = .ok (.getfield 28, 3) := by decide +kernel
theorem dX3_lockToFound_37 : decode cX3_lockToFound 37 = .ok (.getfield 107, 3) := by decide +kernel
theorem dX3_lockToFound_40 : decode cX3_lockToFound 40 = .ok (.iload_n 1, 1) := by decide +kernel
theorem dX3_lockToFound_41 : decode cX3_lockToFound 41 = .ok (.iaload, 1) := by decide +kernel
theorem dX3_lockToFound_42 : decode cX3_lockToFound 42 = .ok (.iastore, 1) := by decide +kernel
theorem dX3_lockToFound_43 : decode cX3_lockToFound 43 = .ok (.aload_n 0, 1) := by decide +kernel
theorem dX3_lockToFound_44 : decode cX3_lockToFound 44 = .ok (.getfield 42, 3) := by decide +kernel
theorem dX3_lockToFound_47 : decode cX3_lockToFound 47 = .ok (.iload_n 1, 1) := by decide +kernel
theorem dX3_lockToFound_48 : decode cX3_lockToFound 48 = .ok (.iconst 0, 1) := by decide +kernel
theorem dX3_lockToFound_49 : decode cX3_lockToFound 49 = .ok (.iastore, 1) := by decide +kernel
theorem dX3_lockToFound_50 : decode cX3_lockToFound 50 = .ok (.iinc 1 1, 3) := by decide +kernel
theorem dX3_lockToFound_53 : decode cX3_lockToFound 53 = .ok (.goto (-51), 3) := by decide +kernel
theorem dX3_lockToFound_56 : decode cX3_lockToFound 56 = .ok (.return_, 1) := by decide +kernel
theorem dX3_waysToTry_0 : decode cX3_waysToTry 0 = .ok (.iconst 1, 1) := by decide +kernel
theorem dX3_waysToTry_1 : decode cX3_waysToTry 1 = .ok (.istore_n 2, 1) := by decide +kernel
theorem dX3_waysToTry_2 : decode cX3_waysToTry 2 = .ok (.iconst 1, 1) := by decide +kernel
theorem dX3_waysToTry_3 : decode cX3_waysToTry 3 = .ok (.istore_n 3, 1) := by decide +kernel
theorem dX3_waysToTry_4 : decode cX3_waysToTry 4 = .ok (.iconst 1, 1) := by decide +kernel
theorem dX3_waysToTry_5 : decode cX3_waysToTry 5 = .ok (.istore 4, 2) := by decide +kernel
theorem dX3_waysToTry_7 : decode cX3_waysToTry 7 = .ok (.iload 4, 2) := by decide +kernel
theorem dX3_waysToTry_9 : decode cX3_waysToTry 9 = .ok (.iload_n 1, 1) := by decide +kernel
theorem dX3_waysToTry_10 : decode cX3_waysToTry 10 = .ok (.if_icmp .gt 28, 3) := by decide +kernel
theorem dX3_waysToTry_13 : decode cX3_waysToTry 13 = .ok (.iload_n 3, 1) := by decide +kernel
theorem dX3_waysToTry_14 : decode cX3_waysToTry 14 = .ok (.aload_n 0, 1) := by decide +kernel
theorem dX3_waysToTry_15 : decode cX3_waysToTry 15 = .ok (.getfield 48, 3) := by decide +kernel
theorem dX3_waysToTry_18 : decode cX3_waysToTry 18 = .ok (.iload 4, 2) := by decide +kernel
theorem dX3_waysToTry_20 : decode cX3_waysToTry 20 = .ok (.isub, 1) := by decide +kernel
theorem dX3_waysToTry_21 : decode cX3_waysToTry 21 = .ok (.iconst 1, 1) := by decide +kernel
theorem dX3_waysToTry_22 : decode cX3_waysToTry 22 = .ok (.iadd, 1) := by decide +kernel
theorem dX3_waysToTry_23 : decode cX3_waysToTry 23 = .ok (.imul, 1) := by decide +kernel
theorem dX3_waysToTry_24 : decode cX3_waysToTry 24 = .ok (.iload 4, 2) := by decide +kernel
theorem dX3_waysToTry_26 : decode cX3_waysToTry 26 = .ok (.idiv, 1) := by decide +kernel
theorem dX3_waysToTry_27 : decode cX3_waysToTry 27 = .ok (.istore_n 3, 1) := by decide +kernel
theorem dX3_waysToTry_28 : decode cX3_waysToTry 28 = .ok (.iload_n 2, 1) := by decide +kernel
theorem dX3_waysToTry_29 : decode cX3_waysToTry 29 = .ok (.iload_n 3, 1) := by decide +kernel
theorem dX3_waysToTry_30 : decode cX3_waysToTry 30 = .ok (.iadd, 1) := by decide +kernel
theorem dX3_waysToTry_31 : decode cX3_waysToTry 31 = .ok (.istore_n 2, 1) := by decide +kernel
theorem dX3_waysToTry_32 : decode cX3_waysToTry 32 = .ok (.iinc 4 1, 3) := by decide +kernel
theorem dX3_waysToTry_35 : decode cX3_waysToTry 35 = .ok (.goto (-28), 3) := by decide +kernel
theorem dX3_waysToTry_38 : decode cX3_waysToTry 38 = .ok (.iload_n 2, 1) := by decide +kernel
theorem dX3_waysToTry_39 : decode cX3_waysToTry 39 = .ok (.ireturn, 1) := by decide +kernel
theorem dX3_codeOf_0 : decode cX3_codeOf 0 = .ok (.iload_n 0, 1) := by decide +kernel
theorem dX3_codeOf_1 : decode cX3_codeOf 1 = .ok (.iconst 1, 1) := by decide +kernel
theorem dX3_codeOf_2 : decode cX3_codeOf 2 = .ok (.iadd, 1) := by decide +kernel
theorem dX3_codeOf_3 : decode cX3_codeOf 3 = .ok (.ireturn, 1) := by decide +kernel
theorem dX3_versionOf_0 : decode cX3_versionOf 0 = .ok (.iload_n 0, 1) := by decide +kernel
theorem dX3_versionOf_1 : decode cX3_versionOf 1 = .ok (.iconst 1, 1) := by decide +kernel
theorem dX3_versionOf_2 : decode cX3_versionOf 2 = .ok (.isub, 1) := by decide +kernel
theorem dX3_versionOf_3 : decode cX3_versionOf 3 = .ok (.ireturn, 1) := by decide +kernel
theorem dX3_codesOf_0 : decode cX3_codesOf 0 = .ok (.lload_n 0, 1) := by decide +kernel
theorem dX3_codesOf_1 : decode cX3_codesOf 1 = .ok (.iconst 1, 1) := by decide +kernel
theorem dX3_codesOf_2 : decode cX3_codesOf 2 = .ok (.lshl, 1) := by decide +kernel
theorem dX3_codesOf_3 : decode cX3_codesOf 3 = .ok (.l2i, 1) := by decide +kernel
theorem dX3_codesOf_4 : decode cX3_codesOf 4 = .ok (.bipush 127, 2) := by decide +kernel
theorem dX3_codesOf_6 : decode cX3_codesOf 6 = .ok (.iand, 1) := by decide +kernel
theorem dX3_codesOf_7 : decode cX3_codesOf 7 = .ok (.bipush (-2), 2) := by decide +kernel
theorem dX3_codesOf_9 : decode cX3_codesOf 9 = .ok (.iand, 1) := by decide +kernel
theorem dX3_codesOf_10 : decode cX3_codesOf 10 = .ok (.ireturn, 1) := by decide +kernel
theorem dX3_digestOf_0 : decode cX3_digestOf 0 = .ok (.iload_n 0, 1) := by decide +kernel
theorem dX3_digestOf_1 : decode cX3_digestOf 1 = .ok (.iconst 1, 1) := by decide +kernel
theorem dX3_digestOf_2 : decode cX3_digestOf 2 = .ok (.iadd, 1) := by decide +kernel
theorem dX3_digestOf_3 : decode cX3_digestOf 3 = .ok (.i2l, 1) := by decide +kernel
theorem dX3_digestOf_4 : decode cX3_digestOf 4 = .ok (.ldc2_w 151, 3) := by decide +kernel
theorem dX3_digestOf_7 : decode cX3_digestOf 7 = .ok (.lmul, 1) := by decide +kernel
theorem dX3_digestOf_8 : decode cX3_digestOf 8 = .ok (.iload_n 1, 1) := by decide +kernel
theorem dX3_digestOf_9 : decode cX3_digestOf 9 = .ok (.i2l, 1) := by decide +kernel
theorem dX3_digestOf_10 : decode cX3_digestOf 10 = .ok (.ladd, 1) := by decide +kernel
theorem dX3_digestOf_11 : decode cX3_digestOf 11 = .ok (.lconst 1, 1) := by decide +kernel
theorem dX3_digestOf_12 : decode cX3_digestOf 12 = .ok (.ladd, 1) := by decide +kernel
theorem dX3_digestOf_13 : decode cX3_digestOf 13 = .ok (.ldc2_w 153, 3) := by decide +kernel
theorem dX3_digestOf_16 : decode cX3_digestOf 16 = .ok (.lmul, 1) := by decide +kernel
theorem dX3_digestOf_17 : decode cX3_digestOf 17 = .ok (.lreturn, 1) := by decide +kernel
theorem dX3_ithOf_0 : decode cX3_ithOf 0 = .ok (.iconst 0, 1) := by decide +kernel
theorem dX3_ithOf_1 : decode cX3_ithOf 1 = .ok (.istore_n 2, 1) := by decide +kernel
theorem dX3_ithOf_2 : decode cX3_ithOf 2 = .ok (.iconst 0, 1) := by decide +kernel
theorem dX3_ithOf_3 : decode cX3_ithOf 3 = .ok (.istore_n 3, 1) := by decide +kernel
theorem dX3_ithOf_4 : decode cX3_ithOf 4 = .ok (.iload_n 3, 1) := by decide +kernel
theorem dX3_ithOf_5 : decode cX3_ithOf 5 = .ok (.bipush 8, 2) := by decide +kernel
theorem dX3_ithOf_7 : decode cX3_ithOf 7 = .ok (.if_icmp .ge 27, 3) := by decide +kernel
theorem dX3_ithOf_10 : decode cX3_ithOf 10 = .ok (.iload_n 0, 1) := by decide +kernel
theorem dX3_ithOf_11 : decode cX3_ithOf 11 = .ok (.iload_n 3, 1) := by decide +kernel
theorem dX3_ithOf_12 : decode cX3_ithOf 12 = .ok (.ishr, 1) := by decide +kernel
theorem dX3_ithOf_13 : decode cX3_ithOf 13 = .ok (.iconst 1, 1) := by decide +kernel
theorem dX3_ithOf_14 : decode cX3_ithOf 14 = .ok (.iand, 1) := by decide +kernel
theorem dX3_ithOf_15 : decode cX3_ithOf 15 = .ok (.ifCond .eq 13, 3) := by decide +kernel
theorem dX3_ithOf_18 : decode cX3_ithOf 18 = .ok (.iload_n 2, 1) := by decide +kernel
theorem dX3_ithOf_19 : decode cX3_ithOf 19 = .ok (.iload_n 1, 1) := by decide +kernel
theorem dX3_ithOf_20 : decode cX3_ithOf 20 = .ok (.if_icmp .ne 5, 3) := by decide +kernel
theorem dX3_ithOf_23 : decode cX3_ithOf 23 = .ok (.iload_n 3, 1) := by decide +kernel
theorem dX3_ithOf_24 : decode cX3_ithOf 24 = .ok (.ireturn, 1) := by decide +kernel
theorem dX3_ithOf_25 : decode cX3_ithOf 25 = .ok (.iinc 2 1, 3) := by decide +kernel
theorem dX3_ithOf_28 : decode cX3_ithOf 28 = .ok (.iinc 3 1, 3) := by decide +kernel
theorem dX3_ithOf_31 : decode cX3_ithOf 31 = .ok (.goto (-27), 3) := by decide +kernel
theorem dX3_ithOf_34 : decode cX3_ithOf 34 = .ok (.iconst (-1), 1) := by decide +kernel
theorem dX3_ithOf_35 : decode cX3_ithOf 35 = .ok (.ireturn, 1) := by decide +kernel
theorem dX3_isChanged_0 : decode cX3_isChanged 0 = .ok (.iload_n 0, 1) := by decide +kernel
theorem dX3_isChanged_1 : decode cX3_isChanged 1 = .ok (.iload_n 1, 1) := by decide +kernel
theorem dX3_isChanged_2 : decode cX3_isChanged 2 = .ok (.if_icmp .eq 7, 3) := by decide +kernel
theorem dX3_isChanged_5 : decode cX3_isChanged 5 = .ok (.iconst 1, 1) := by decide +kernel
theorem dX3_isChanged_6 : decode cX3_isChanged 6 = .ok (.goto 4, 3) := by decide +kernel
theorem dX3_isChanged_9 : decode cX3_isChanged 9 = .ok (.iconst 0, 1) := by decide +kernel
theorem dX3_isChanged_10 : decode cX3_isChanged 10 = .ok (.ireturn, 1) := by decide +kernel
theorem dX3_isDown_0 : decode cX3_isDown 0 = .ok (.iload_n 0, 1) := by decide +kernel
theorem dX3_isDown_1 : decode cX3_isDown 1 = .ok (.ifCond .eq 12, 3) := by decide +kernel
theorem dX3_isDown_4 : decode cX3_isDown 4 = .ok (.iload_n 0, 1) := by decide +kernel
theorem dX3_isDown_5 : decode cX3_isDown 5 = .ok (.iload_n 1, 1) := by decide +kernel
theorem dX3_isDown_6 : decode cX3_isDown 6 = .ok (.if_icmp .ge 7, 3) := by decide +kernel
theorem dX3_isDown_9 : decode cX3_isDown 9 = .ok (.iconst 1, 1) := by decide +kernel
theorem dX3_isDown_10 : decode cX3_isDown 10 = .ok (.goto 4, 3) := by decide +kernel
theorem dX3_isDown_13 : decode cX3_isDown 13 = .ok (.iconst 0, 1) := by decide +kernel
theorem dX3_isDown_14 : decode cX3_isDown 14 = .ok (.ireturn, 1) := by decide +kernel
theorem dX4_init_0 : decode cX4_init 0 = .ok (.aload_n 0, 1) := by decide +kernel
theorem dX4_init_1 : decode cX4_init 1 = .ok (.invokespecial 1, 3) := by decide +kernel
theorem dX4_init_4 : decode cX4_init 4 = .ok (.aload_n 0, 1) := by decide +kernel
theorem dX4_init_5 : decode cX4_init 5 = .ok (.bipush 8, 2) := by decide +kernel
theorem dX4_init_7 : decode cX4_init 7 = .ok (.newarray .int, 2) := by decide +kernel
theorem dX4_init_9 : decode cX4_init 9 = .ok (.putfield 7, 3) := by decide +kernel
theorem dX4_init_12 : decode cX4_init 12 = .ok (.aload_n 0, 1) := by decide +kernel
theorem dX4_init_13 : decode cX4_init 13 = .ok (.bipush 8, 2) := by decide +kernel
theorem dX4_init_15 : decode cX4_init 15 = .ok (.newarray .int, 2) := by decide +kernel
theorem dX4_init_17 : decode cX4_init 17 = .ok (.putfield 13, 3) := by decide +kernel
theorem dX4_init_20 : decode cX4_init 20 = .ok (.aload_n 0, 1) := by decide +kernel
theorem dX4_init_21 : decode cX4_init 21 = .ok (.bipush 8, 2) := by decide +kernel
theorem dX4_init_23 : decode cX4_init 23 = .ok (.newarray .int, 2) := by decide +kernel
theorem dX4_init_25 : decode cX4_init 25 = .ok (.putfield 16, 3) := by decide +kernel
theorem dX4_init_28 : decode cX4_init 28 = .ok (.aload_n 0, 1) := by decide +kernel
theorem dX4_init_29 : decode cX4_init 29 = .ok (.bipush 60, 2) := by decide +kernel
theorem dX4_init_31 : decode cX4_init 31 = .ok (.newarray .int, 2) := by decide +kernel
theorem dX4_init_33 : decode cX4_init 33 = .ok (.putfield 19, 3) := by decide +kernel
theorem dX4_init_36 : decode cX4_init 36 = .ok (.aload_n 0, 1) := by decide +kernel
theorem dX4_init_37 : decode cX4_init 37 = .ok (.bipush 60, 2) := by decide +kernel
theorem dX4_init_39 : decode cX4_init 39 = .ok (.newarray .int, 2) := by decide +kernel
theorem dX4_init_41 : decode cX4_init 41 = .ok (.putfield 22, 3) := by decide +kernel
theorem dX4_init_44 : decode cX4_init 44 = .ok (.aload_n 0, 1) := by decide +kernel
theorem dX4_init_45 : decode cX4_init 45 = .ok (.bipush 60, 2) := by decide +kernel
theorem dX4_init_47 : decode cX4_init 47 = .ok (.newarray .int, 2) := by decide +kernel
theorem dX4_init_49 : decode cX4_init 49 = .ok (.putfield 25, 3) := by decide +kernel
theorem dX4_init_52 : decode cX4_init 52 = .ok (.aload_n 0, 1) := by decide +kernel
theorem dX4_init_53 : decode cX4_init 53 = .ok (.bipush 60, 2) := by decide +kernel
theorem dX4_init_55 : decode cX4_init 55 = .ok (.newarray .int, 2) := by decide +kernel
theorem dX4_init_57 : decode cX4_init 57 = .ok (.putfield 28, 3) := by decide +kernel
theorem dX4_init_60 : decode cX4_init 60 = .ok (.aload_n 0, 1) := by decide +kernel
theorem dX4_init_61 : decode cX4_init 61 = .ok (.bipush 60, 2) := by decide +kernel
theorem dX4_init_63 : decode cX4_init 63 = .ok (.newarray .int, 2) := by decide +kernel
theorem dX4_init_65 : decode cX4_init 65 = .ok (.putfield 31, 3) := by decide +kernel
theorem dX4_init_68 : decode cX4_init 68 = .ok (.aload_n 0, 1) := by decide +kernel
theorem dX4_init_69 : decode cX4_init 69 = .ok (.bipush 8, 2) := by decide +kernel
theorem dX4_init_71 : decode cX4_init 71 = .ok (.newarray .int, 2) := by decide +kernel
theorem dX4_init_73 : decode cX4_init 73 = .ok (.putfield 34, 3) := by decide +kernel
theorem dX4_init_76 : decode cX4_init 76 = .ok (.aload_n 0, 1) := by decide +kernel
theorem dX4_init_77 : decode cX4_init 77 = .ok (.bipush 72, 2) := by decide +kernel
theorem dX4_init_79 : decode cX4_init 79 = .ok (.newarray .int, 2) := by decide +kernel
theorem dX4_init_81 : decode cX4_init 81 = .ok (.putfield 37, 3) := by decide +kernel
theorem dX4_init_84 : decode cX4_init 84 = .ok (.aload_n 0, 1) := by decide +kernel
theorem dX4_init_85 : decode cX4_init 85 = .ok (.bipush 8, 2) := by decide +kernel
theorem dX4_init_87 : decode cX4_init 87 = .ok (.newarray .int, 2) := by decide +kernel
theorem dX4_init_89 : decode cX4_init 89 = .ok (.putfield 40, 3) := by decide +kernel
theorem dX4_init_92 : decode cX4_init 92 = .ok (.aload_n 0, 1) := by decide +kernel
theorem dX4_init_93 : decode cX4_init 93 = .ok (.bipush 8, 2) := by decide +kernel
theorem dX4_init_95 : decode cX4_init 95 = .ok (.newarray .int, 2) := by decide +kernel
theorem dX4_init_97 : decode cX4_init 97 = .ok (.putfield 43, 3) := by decide +kernel
theorem dX4_init_100 : decode cX4_init 100 = .ok (.aload_n 0, 1) := by decide +kernel
theorem dX4_init_101 : decode cX4_init 101 = .ok (.bipush 8, 2) := by decide +kernel
theorem dX4_init_103 : decode cX4_init 103 = .ok (.newarray .int, 2) := by decide +kernel
theorem dX4_init_105 : decode cX4_init 105 = .ok (.putfield 46, 3) := by decide +kernel
theorem dX4_init_108 : decode cX4_init 108 = .ok (.aload_n 0, 1) := by decide +kernel
theorem dX4_init_109 : decode cX4_init 109 = .ok (.bipush 8, 2) := by decide +kernel
theorem dX4_init_111 : decode cX4_init 111 = .ok (.newarray .int, 2) := by decide +kernel
theorem dX4_init_113 : decode cX4_init 113 = .ok (.putfield 49, 3) := by decide +kernel
theorem dX4_init_116 : decode cX4_init 116 = .ok (.aload_n 0, 1) := by decide +kernel
theorem dX4_init_117 : decode cX4_init 117 = .ok (.bipush 9, 2) := by decide +kernel
theorem dX4_init_119 : decode cX4_init 119 = .ok (.newarray .int, 2) := by decide +kernel
theorem dX4_init_121 : decode cX4_init 121 = .ok (.putfield 52, 3) := by decide +kernel
theorem dX4_init_124 : decode cX4_init 124 = .ok (.aload_n 0, 1) := by decide +kernel
theorem dX4_init_125 : decode cX4_init 125 = .ok (.bipush 9, 2) := by decide +kernel
theorem dX4_init_127 : decode cX4_init 127 = .ok (.newarray .int, 2) := by decide +kernel
theorem dX4_init_129 : decode cX4_init 129 = .ok (.putfield 55, 3) := by decide +kernel
theorem dX4_init_132 : decode cX4_init 132 = .ok (.aload_n 0, 1) := by decide +kernel
theorem dX4_init_133 : decode cX4_init 133 = .ok (.bipush 9, 2) := by decide +kernel
theorem dX4_init_135 : decode cX4_init 135 = .ok (.newarray .int, 2) := by decide +kernel
theorem dX4_init_137 : decode cX4_init 137 = .ok (.putfield 58, 3) := by decide +kernel
theorem dX4_init_140 : decode cX4_init 140 = .ok (.return_, 1) := by decide +kernel
theorem dX4_thrown_0 : decode cX4_thrown 0 = .ok (.aload_n 0, 1) := by decide +kernel
theorem dX4_thrown_1 : decode cX4_thrown 1 = .ok (.getfield 61, 3) := by decide +kernel
theorem dX4_thrown_4 : decode cX4_thrown 4 = .ok (.ireturn, 1) := by decide +kernel
theorem dX4_isName_0 : decode cX4_isName 0 = .ok (.iload_n 1, 1) := by decide +kernel
theorem dX4_isName_1 : decode cX4_isName 1 = .ok (.ifCond .lt 15, 3) := by decide +kernel
theorem dX4_isName_4 : decode cX4_isName 4 = .ok (.iload_n 1, 1) := by decide +kernel
theorem dX4_isName_5 : decode cX4_isName 5 = .ok (.aload_n 0, 1) := by decide +kernel
theorem dX4_isName_6 : decode cX4_isName 6 = .ok (.getfield 65, 3) := by decide +kernel
theorem dX4_isName_9 : decode cX4_isName 9 = .ok (.if_icmp .ge 7, 3) := by decide +kernel
theorem dX4_isName_12 : decode cX4_isName 12 = .ok (.iconst 1, 1) := by decide +kernel
theorem dX4_isName_13 : decode cX4_isName 13 = .ok (.goto 4, 3) := by decide +kernel
theorem dX4_isName_16 : decode cX4_isName 16 = .ok (.iconst 0, 1) := by decide +kernel
theorem dX4_isName_17 : decode cX4_isName 17 = .ok (.ireturn, 1) := by decide +kernel
theorem dX4_name_0 : decode cX4_name 0 = .ok (.aload_n 0, 1) := by decide +kernel
theorem dX4_name_1 : decode cX4_name 1 = .ok (.iconst 0, 1) := by decide +kernel
theorem dX4_name_2 : decode cX4_name 2 = .ok (.putfield 61, 3) := by decide +kernel
theorem dX4_name_5 : decode cX4_name 5 = .ok (.iload_n 1, 1) := by decide +kernel
theorem dX4_name_6 : decode cX4_name 6 = .ok (.iconst 1, 1) := by decide +kernel
theorem dX4_name_7 : decode cX4_name 7 = .ok (.if_icmp .lt 20, 3) := by decide +kernel
theorem dX4_name_10 : decode cX4_name 10 = .ok (.iload_n 1, 1) := by decide +kernel
theorem dX4_name_11 : decode cX4_name 11 = .ok (.bipush 6, 2) := by decide +kernel
theorem dX4_name_13 : decode cX4_name 13 = .ok (.if_icmp .gt 14, 3) := by decide +kernel
theorem dX4_name_16 : decode cX4_name 16 = .ok (.iload_n 2, 1) := by decide +kernel
theorem dX4_name_17 : decode cX4_name 17 = .ok (.iconst (-1), 1) := by decide +kernel
theorem dX4_name_18 : decode cX4_name 18 = .ok (.if_icmp .lt 9, 3) := by decide +kernel
theorem dX4_name_21 : decode cX4_name 21 = .ok (.iload_n 2, 1) := by decide +kernel
theorem dX4_name_22 : decode cX4_name 22 = .ok (.bipush 9, 2) := by decide +kernel
theorem dX4_name_24 : decode cX4_name 24 = .ok (.if_icmp .le 6, 3) := by decide +kernel
theorem dX4_name_27 : decode cX4_name 27 = .ok (.bipush (-2), 2) := by decide +kernel
theorem dX4_name_29 : decode cX4_name 29 = .ok (.ireturn, 1) := by decide +kernel
theorem dX4_name_30 : decode cX4_name 30 = .ok (.aload_n 0, 1) := by decide +kernel
theorem dX4_name_31 : decode cX4_name 31 = .ok (.getfield 65, 3) := by decide +kernel
theorem dX4_name_34 : decode cX4_name 34 = .ok (.bipush 8, 2) := by decide +kernel
theorem dX4_name_36 : decode cX4_name 36 = .ok (.if_icmp .ne 6, 3) := by decide +kernel
theorem dX4_name_39 : decode cX4_name 39 = .ok (.bipush (-4), 2) := by decide +kernel
theorem dX4_name_41 : decode cX4_name 41 = .ok (.ireturn, 1) := by decide +kernel
theorem dX4_name_42 : decode cX4_name 42 = .ok (.aload_n 0, 1) := by decide +kernel
theorem dX4_name_43 : decode cX4_name 43 = .ok (.getfield 7, 3) := by decide +kernel
theorem dX4_name_46 : decode cX4_name 46 = .ok (.aload_n 0, 1) := by decide +kernel
theorem dX4_name_47 : decode cX4_name 47 = .ok (.getfield 65, 3) := by decide +kernel
theorem dX4_name_50 : decode cX4_name 50 = .ok (.iload_n 1, 1) := by decide +kernel
theorem dX4_name_51 : decode cX4_name 51 = .ok (.iastore, 1) := by decide +kernel
theorem dX4_name_52 : decode cX4_name 52 = .ok (.aload_n 0, 1) := by decide +kernel
theorem dX4_name_53 : decode cX4_name 53 = .ok (.getfield 13, 3) := by decide +kernel
theorem dX4_name_56 : decode cX4_name 56 = .ok (.aload_n 0, 1) := by decide +kernel
theorem dX4_name_57 : decode cX4_name 57 = .ok (.getfield 65, 3) := by decide +kernel
theorem dX4_name_60 : decode cX4_name 60 = .ok (.iload_n 2, 1) := by decide +kernel
theorem dX4_name_61 : decode cX4_name 61 = .ok (.iastore, 1) := by decide +kernel
theorem dX4_name_62 : decode cX4_name 62 = .ok (.aload_n 0, 1) := by decide +kernel
theorem dX4_name_63 : decode cX4_name 63 = .ok (.dup, 1) := by decide +kernel
theorem dX4_name_64 : decode cX4_name 64 = .ok (.getfield 65, 3) := by decide +kernel
theorem dX4_name_67 : decode cX4_name 67 = .ok (.iconst 1, 1) := by decide +kernel
theorem dX4_name_68 : decode cX4_name 68 = .ok (.iadd, 1) := by decide +kernel
theorem dX4_name_69 : decode cX4_name 69 = .ok (.putfield 65, 3) := by decide +kernel
theorem dX4_name_72 : decode cX4_name 72 = .ok (.aload_n 0, 1) := by decide +kernel
theorem dX4_name_73 : decode cX4_name 73 = .ok (.getfield 65, 3) := by decide +kernel
theorem dX4_name_76 : decode cX4_name 76 = .ok (.iconst 1, 1) := by decide +kernel
theorem dX4_name_77 : decode cX4_name 77 = .ok (.isub, 1) := by decide +kernel
theorem dX4_name_78 : decode cX4_name 78 = .ok (.ireturn, 1) := by decide +kernel
theorem dX4_add_0 : decode cX4_add 0 = .ok (.aload_n 0, 1) := by decide +kernel
theorem dX4_add_1 : decode cX4_add 1 = .ok (.getfield 68, 3) := by decide +kernel
theorem dX4_add_4 : decode cX4_add 4 = .ok (.bipush 60, 2) := by decide +kernel
theorem dX4_add_6 : decode cX4_add 6 = .ok (.if_icmp .ne 6, 3) := by decide +kernel
theorem dX4_add_9 : decode cX4_add 9 = .ok (.bipush (-4), 2) := by decide +kernel
theorem dX4_add_11 : decode cX4_add 11 = .ok (.ireturn, 1) := by decide +kernel
theorem dX4_add_12 : decode cX4_add 12 = .ok (.aload_n 0, 1) := by decide +kernel
theorem dX4_add_13 : decode cX4_add 13 = .ok (.getfield 19, 3) := by decide +kernel
theorem dX4_add_16 : decode cX4_add 16 = .ok (.aload_n 0, 1) := by decide +kernel
theorem dX4_add_17 : decode cX4_add 17 = .ok (.getfield 68, 3) := by decide +kernel
theorem dX4_add_20 : decode cX4_add 20 = .ok (.iload_n 1, 1) := by decide +kernel
theorem dX4_add_21 : decode cX4_add 21 = .ok (.iastore, 1) := by decide +kernel
theorem dX4_add_22 : decode cX4_add 22 = .ok (.aload_n 0, 1) := by decide +kernel
theorem dX4_add_23 : decode cX4_add 23 = .ok (.getfield 22, 3) := by decide +kernel
theorem dX4_add_26 : decode cX4_add 26 = .ok (.aload_n 0, 1) := by decide +kernel
theorem dX4_add_27 : decode cX4_add 27 = .ok (.getfield 68, 3) := by decide +kernel
theorem dX4_add_30 : decode cX4_add 30 = .ok (.iload_n 2, 1) := by decide +kernel
theorem dX4_add_31 : decode cX4_add 31 = .ok (.iastore, 1) := by decide +kernel
theorem dX4_add_32 : decode cX4_add 32 = .ok (.aload_n 0, 1) := by decide +kernel
theorem dX4_add_33 : decode cX4_add 33 = .ok (.getfield 25, 3) := by decide +kernel
theorem dX4_add_36 : decode cX4_add 36 = .ok (.aload_n 0, 1) := by decide +kernel
theorem dX4_add_37 : decode cX4_add 37 = .ok (.getfield 68, 3) := by decide +kernel
theorem dX4_add_40 : decode cX4_add 40 = .ok (.iload_n 3, 1) := by decide +kernel
theorem dX4_add_41 : decode cX4_add 41 = .ok (.iastore, 1) := by decide +kernel
theorem dX4_add_42 : decode cX4_add 42 = .ok (.aload_n 0, 1) := by decide +kernel
theorem dX4_add_43 : decode cX4_add 43 = .ok (.getfield 28, 3) := by decide +kernel
theorem dX4_add_46 : decode cX4_add 46 = .ok (.aload_n 0, 1) := by decide +kernel
theorem dX4_add_47 : decode cX4_add 47 = .ok (.getfield 68, 3) := by decide +kernel
theorem dX4_add_50 : decode cX4_add 50 = .ok (.iload 4, 2) := by decide +kernel
theorem dX4_add_52 : decode cX4_add 52 = .ok (.iastore, 1) := by decide +kernel
theorem dX4_add_53 : decode cX4_add 53 = .ok (.aload_n 0, 1) := by decide +kernel
theorem dX4_add_54 : decode cX4_add 54 = .ok (.getfield 31, 3) := by decide +kernel
theorem dX4_add_57 : decode cX4_add 57 = .ok (.aload_n 0, 1) := by decide +kernel
theorem dX4_add_58 : decode cX4_add 58 = .ok (.getfield 68, 3) := by decide +kernel
theorem dX4_add_61 : decode cX4_add 61 = .ok (.lload 5, 2) := by decide +kernel
theorem dX4_add_63 : decode cX4_add 63 = .ok (.ldc2_w 71, 3) := by decide +kernel
theorem dX4_add_66 : decode cX4_add 66 = .ok (.land, 1) := by decide +kernel
theorem dX4_add_67 : decode cX4_add 67 = .ok (.l2i, 1) := by decide +kernel
theorem dX4_add_68 : decode cX4_add 68 = .ok (.iastore, 1) := by decide +kernel
theorem dX4_add_69 : decode cX4_add 69 = .ok (.aload_n 0, 1) := by decide +kernel
theorem dX4_add_70 : decode cX4_add 70 = .ok (.dup, 1) := by decide +kernel
theorem dX4_add_71 : decode cX4_add 71 = .ok (.getfield 68, 3) := by decide +kernel
theorem dX4_add_74 : decode cX4_add 74 = .ok (.iconst 1, 1) := by decide +kernel
theorem dX4_add_75 : decode cX4_add 75 = .ok (.iadd, 1) := by decide +kernel
theorem dX4_add_76 : decode cX4_add 76 = .ok (.putfield 68, 3) := by decide +kernel
theorem dX4_add_79 : decode cX4_add 79 = .ok (.aload_n 0, 1) := by decide +kernel
theorem dX4_add_80 : decode cX4_add 80 = .ok (.getfield 68, 3) := by decide +kernel
theorem dX4_add_83 : decode cX4_add 83 = .ok (.iconst 1, 1) := by decide +kernel
theorem dX4_add_84 : decode cX4_add 84 = .ok (.isub, 1) := by decide +kernel
theorem dX4_add_85 : decode cX4_add 85 = .ok (.ireturn, 1) := by decide +kernel
set_option maxRecDepth 20000 in
theorem ggX4_needs_X4_isName : GoodIn wsX4_needs wsX4_isName := goodIn_r _ [7, 8, 20, 21, 22, 23, 24, 25, 26, 27, 28, 29, 30, 31, 32, 33, 34, 35, 36, 37, 38, 39, 40, 41, 42, 43, 44] (by decide +kernel) (by decide +kernel)
set_option maxRecDepth 20000 in
theorem gX4_needs_X4_isName : GoodIn wsX4_needs (wsV RX4 73 RX4 yX4_isName wsX4_isName) := goodIn_app (goodIn_of _ (by decide +kernel)) ggX4_needs_X4_isName
set_option maxRecDepth 20000 in
theorem ggX4_needs_X4_add : GoodIn wsX4_needs wsX4_add := goodIn_ca (goodIn_r _ [12, 13, 14, 15, 16, 17, 18, 19, 20, 21, 22, 23, 24, 25, 26, 27, 28, 29, 30, 31, 32, 33, 34, 35, 36, 37, 38, 39, 40, 41, 42, 43, 44] (by decide +kernel) (by decide +kernel)) (goodIn_sub (fun _ h => List.mem_cons_of_mem _ (List.mem_append_right _ h)) (by decide +kernel))
set_option maxRecDepth 20000 in
theorem gX4_needs_X4_add : GoodIn wsX4_needs (wsV RX4 77 RX4 yX4_add wsX4_add) := goodIn_app (goodIn_of _ (by decide +kernel)) ggX4_needs_X4_add
theorem dX4_needs_0 : decode cX4_needs 0 = .ok (.aload_n 0, 1) := by decide +kernel
theorem dX4_needs_1 : decode cX4_needs 1 = .ok (.iconst 0, 1) := by decide +kernel
theorem dX4_needs_2 : decode cX4_needs 2 = .ok (.putfield 61, 3) := by decide +kernel
theorem dX4_needs_5 : decode cX4_needs 5 = .ok (.aload_n 0, 1) := by decide +kernel
theorem dX4_needs_6 : decode cX4_needs 6 = .ok (.iload_n 1, 1) := by decide +kernel
theorem dX4_needs_7 : decode cX4_needs 7 = .ok (.invokevirtual 73, 3) := by decide +kernel
theorem dX4_needs_10 : decode cX4_needs 10 = .ok (.ifCond .eq 11, 3) := by decide +kernel
theorem dX4_needs_13 : decode cX4_needs 13 = .ok (.aload_n 0, 1) := by decide +kernel
theorem dX4_needs_14 : decode cX4_needs 14 = .ok (.iload_n 3, 1) := by decide +kernel
theorem dX4_needs_15 : decode cX4_needs 15 = .ok (.invokevirtual 73, 3) := by decide +kernel
theorem dX4_needs_18 : decode cX4_needs 18 = .ok (.ifCond .ne 5, 3) := by decide +kernel
theorem dX4_needs_21 : decode cX4_needs 21 = .ok (.iconst (-1), 1) := by decide +kernel
theorem dX4_needs_22 : decode cX4_needs 22 = .ok (.ireturn, 1) := by decide +kernel
theorem dX4_needs_23 : decode cX4_needs 23 = .ok (.iload_n 2, 1) := by decide +kernel
theorem dX4_needs_24 : decode cX4_needs 24 = .ok (.ifCond .lt 13, 3) := by decide +kernel
theorem dX4_needs_27 : decode cX4_needs 27 = .ok (.iload_n 2, 1) := by decide +kernel
theorem dX4_needs_28 : decode cX4_needs 28 = .ok (.aload_n 0, 1) := by decide +kernel
theorem dX4_needs_29 : decode cX4_needs 29 = .ok (.getfield 7, 3) := by decide +kernel
theorem dX4_needs_32 : decode cX4_needs 32 = .ok (.iload_n 1, 1) := by decide +kernel
theorem dX4_needs_33 : decode cX4_needs 33 = .ok (.iaload, 1) := by decide +kernel
theorem dX4_needs_34 : decode cX4_needs 34 = .ok (.if_icmp .lt 8, 3) := by decide +kernel
theorem dX4_needs_37 : decode cX4_needs 37 = .ok (.bipush (-2), 2) := by decide +kernel
theorem dX4_needs_39 : decode cX4_needs 39 = .ok (.goto 13, 3) := by decide +kernel
theorem dX4_needs_42 : decode cX4_needs 42 = .ok (.aload_n 0, 1) := by decide +kernel
theorem dX4_needs_43 : decode cX4_needs 43 = .ok (.iconst 0, 1) := by decide +kernel
theorem dX4_needs_44 : decode cX4_needs 44 = .ok (.iload_n 1, 1) := by decide +kernel
theorem dX4_needs_45 : decode cX4_needs 45 = .ok (.iload_n 2, 1) := by decide +kernel
theorem dX4_needs_46 : decode cX4_needs 46 = .ok (.iload_n 3, 1) := by decide +kernel
theorem dX4_needs_47 : decode cX4_needs 47 = .ok (.lload 4, 2) := by decide +kernel
theorem dX4_needs_49 : decode cX4_needs 49 = .ok (.invokevirtual 77, 3) := by decide +kernel
theorem dX4_needs_52 : decode cX4_needs 52 = .ok (.ireturn, 1) := by decide +kernel
set_option maxRecDepth 20000 in
theorem ggX4_want_X4_isName : GoodIn wsX4_want wsX4_isName := goodIn_r _ [6, 7, 19, 20, 21, 22, 23, 24, 25, 26, 27, 28, 29, 30, 31, 32, 33, 34, 35, 36, 37, 38, 39, 40, 41, 42, 43] (by decide +kernel) (by decide +kernel)
set_option maxRecDepth 20000 in
theorem gX4_want_X4_isName : GoodIn wsX4_want (wsV RX4 73 RX4 yX4_isName wsX4_isName) := goodIn_app (goodIn_of _ (by decide +kernel)) ggX4_want_X4_isName
set_option maxRecDepth 20000 in
theorem ggX4_want_X4_add : GoodIn wsX4_want wsX4_add := goodIn_ca (goodIn_r _ [11, 12, 13, 14, 15, 16, 17, 18, 19, 20, 21, 22, 23, 24, 25, 26, 27, 28, 29, 30, 31, 32, 33, 34, 35, 36, 37, 38, 39, 40, 41, 42, 43] (by decide +kernel) (by decide +kernel)) (goodIn_sub (fun _ h => List.mem_cons_of_mem _ (List.mem_append_right _ h)) (by decide +kernel))
set_option maxRecDepth 20000 in
theorem gX4_want_X4_add : GoodIn wsX4_want (wsV RX4 77 RX4 yX4_add wsX4_add) := goodIn_app (goodIn_of _ (by decide +kernel)) ggX4_want_X4_add
theorem dX4_want_0 : decode cX4_want 0 = .ok (.aload_n 0, 1) := by decide +kernel
theorem dX4_want_1 : decode cX4_want 1 = .ok (.iconst 0, 1) := by decide +kernel
theorem dX4_want_2 : decode cX4_want 2 = .ok (.putfield 61, 3) := by decide +kernel
theorem dX4_want_5 : decode cX4_want 5 = .ok (.aload_n 0, 1) := by decide +kernel
theorem dX4_want_6 : decode cX4_want 6 = .ok (.iload_n 1, 1) := by decide +kernel
theorem dX4_want_7 : decode cX4_want 7 = .ok (.invokevirtual 73, 3) := by decide +kernel
theorem dX4_want_10 : decode cX4_want 10 = .ok (.ifCond .eq 15, 3) := by decide +kernel
theorem dX4_want_13 : decode cX4_want 13 = .ok (.aload_n 0, 1) := by decide +kernel
theorem dX4_want_14 : decode cX4_want 14 = .ok (.iconst 1, 1) := by decide +kernel
theorem dX4_want_15 : decode cX4_want 15 = .ok (.iload_n 1, 1) := by decide +kernel
theorem dX4_want_16 : decode cX4_want 16 = .ok (.iconst 0, 1) := by decide +kernel
theorem dX4_want_17 : decode cX4_want 17 = .ok (.iconst 0, 1) := by decide +kernel
theorem dX4_want_18 : decode cX4_want 18 = .ok (.lload_n 2, 1) := by decide +kernel
theorem dX4_want_19 : decode cX4_want 19 = .ok (.invokevirtual 77, 3) := by decide +kernel
theorem dX4_want_22 : decode cX4_want 22 = .ok (.goto 4, 3) := by decide +kernel
theorem dX4_want_25 : decode cX4_want 25 = .ok (.iconst (-1), 1) := by decide +kernel
theorem dX4_want_26 : decode cX4_want 26 = .ok (.ireturn, 1) := by decide +kernel
set_option maxRecDepth 20000 in
theorem ggX4_force_X4_isName : GoodIn wsX4_force wsX4_isName := goodIn_r _ [6, 7, 19, 20, 21, 22, 23, 24, 25, 26, 27, 28, 29, 30, 31, 32, 33, 34, 35, 36, 37, 38, 39, 40, 41, 42, 43] (by decide +kernel) (by decide +kernel)
set_option maxRecDepth 20000 in
theorem gX4_force_X4_isName : GoodIn wsX4_force (wsV RX4 73 RX4 yX4_isName wsX4_isName) := goodIn_app (goodIn_of _ (by decide +kernel)) ggX4_force_X4_isName
set_option maxRecDepth 20000 in
theorem ggX4_force_X4_add : GoodIn wsX4_force wsX4_add := goodIn_ca (goodIn_r _ [11, 12, 13, 14, 15, 16, 17, 18, 19, 20, 21, 22, 23, 24, 25, 26, 27, 28, 29, 30, 31, 32, 33, 34, 35, 36, 37, 38, 39, 40, 41, 42, 43] (by decide +kernel) (by decide +kernel)) (goodIn_sub (fun _ h => List.mem_cons_of_mem _ (List.mem_append_right _ h)) (by decide +kernel))
set_option maxRecDepth 20000 in
theorem gX4_force_X4_add : GoodIn wsX4_force (wsV RX4 77 RX4 yX4_add wsX4_add) := goodIn_app (goodIn_of _ (by decide +kernel)) ggX4_force_X4_add
theorem dX4_force_0 : decode cX4_force 0 = .ok (.aload_n 0, 1) := by decide +kernel
theorem dX4_force_1 : decode cX4_force 1 = .ok (.iconst 0, 1) := by decide +kernel
theorem dX4_force_2 : decode cX4_force 2 = .ok (.putfield 61, 3) := by decide +kernel
theorem dX4_force_5 : decode cX4_force 5 = .ok (.aload_n 0, 1) := by decide +kernel
theorem dX4_force_6 : decode cX4_force 6 = .ok (.iload_n 1, 1) := by decide +kernel
theorem dX4_force_7 : decode cX4_force 7 = .ok (.invokevirtual 73, 3) := by decide +kernel
theorem dX4_force_10 : decode cX4_force 10 = .ok (.ifCond .eq 15, 3) := by decide +kernel
theorem dX4_force_13 : decode cX4_force 13 = .ok (.aload_n 0, 1) := by decide +kernel
theorem dX4_force_14 : decode cX4_force 14 = .ok (.iconst 2, 1) := by decide +kernel
theorem dX4_force_15 : decode cX4_force 15 = .ok (.iload_n 1, 1) := by decide +kernel
theorem dX4_force_16 : decode cX4_force 16 = .ok (.iconst 0, 1) := by decide +kernel
theorem dX4_force_17 : decode cX4_force 17 = .ok (.iconst 0, 1) := by decide +kernel
theorem dX4_force_18 : decode cX4_force 18 = .ok (.lload_n 2, 1) := by decide +kernel
theorem dX4_force_19 : decode cX4_force 19 = .ok (.invokevirtual 77, 3) := by decide +kernel
theorem dX4_force_22 : decode cX4_force 22 = .ok (.goto 4, 3) := by decide +kernel
theorem dX4_force_25 : decode cX4_force 25 = .ok (.iconst (-1), 1) := by decide +kernel
theorem dX4_force_26 : decode cX4_force 26 = .ok (.ireturn, 1) := by decide +kernel
set_option maxRecDepth 20000 in
theorem ggX4_group_X4_isName : GoodIn wsX4_group wsX4_isName := goodIn_r _ [6, 7, 19, 20, 21, 22, 23, 24, 25, 26, 27, 28, 29, 30, 31, 32, 33, 34, 35, 36, 37, 38, 39, 40, 41, 42, 43] (by decide +kernel) (by decide +kernel)
set_option maxRecDepth 20000 in
theorem gX4_group_X4_isName : GoodIn wsX4_group (wsV RX4 73 RX4 yX4_isName wsX4_isName) := goodIn_app (goodIn_of _ (by decide +kernel)) ggX4_group_X4_isName
set_option maxRecDepth 20000 in
theorem ggX4_group_X4_add : GoodIn wsX4_group wsX4_add := goodIn_ca (goodIn_r _ [11, 12, 13, 14, 15, 16, 17, 18, 19, 20, 21, 22, 23, 24, 25, 26, 27, 28, 29, 30, 31, 32, 33, 34, 35, 36, 37, 38, 39, 40, 41, 42, 43] (by decide +kernel) (by decide +kernel)) (goodIn_sub (fun _ h => List.mem_cons_of_mem _ (List.mem_append_right _ h)) (by decide +kernel))
set_option maxRecDepth 20000 in
theorem gX4_group_X4_add : GoodIn wsX4_group (wsV RX4 77 RX4 yX4_add wsX4_add) := goodIn_app (goodIn_of _ (by decide +kernel)) ggX4_group_X4_add
theorem dX4_group_0 : decode cX4_group 0 = .ok (.aload_n 0, 1) := by decide +kernel
theorem dX4_group_1 : decode cX4_group 1 = .ok (.iconst 0, 1) := by decide +kernel
theorem dX4_group_2 : decode cX4_group 2 = .ok (.putfield 61, 3) := by decide +kernel
theorem dX4_group_5 : decode cX4_group 5 = .ok (.aload_n 0, 1) := by decide +kernel
theorem dX4_group_6 : decode cX4_group 6 = .ok (.iload_n 1, 1) := by decide +kernel
theorem dX4_group_7 : decode cX4_group 7 = .ok (.invokevirtual 73, 3) := by decide +kernel
theorem dX4_group_10 : decode cX4_group 10 = .ok (.ifCond .eq 11, 3) := by decide +kernel
theorem dX4_group_13 : decode cX4_group 13 = .ok (.aload_n 0, 1) := by decide +kernel
theorem dX4_group_14 : decode cX4_group 14 = .ok (.iload_n 2, 1) := by decide +kernel
theorem dX4_group_15 : decode cX4_group 15 = .ok (.invokevirtual 73, 3) := by decide +kernel
theorem dX4_group_18 : decode cX4_group 18 = .ok (.ifCond .ne 5, 3) := by decide +kernel
theorem dX4_group_21 : decode cX4_group 21 = .ok (.iconst (-1), 1) := by decide +kernel
theorem dX4_group_22 : decode cX4_group 22 = .ok (.ireturn, 1) := by decide +kernel
theorem dX4_group_23 : decode cX4_group 23 = .ok (.iload_n 1, 1) := by decide +kernel
theorem dX4_group_24 : decode cX4_group 24 = .ok (.iload_n 2, 1) := by decide +kernel
theorem dX4_group_25 : decode cX4_group 25 = .ok (.if_icmp .ne 8, 3) := by decide +kernel
theorem dX4_group_28 : decode cX4_group 28 = .ok (.bipush (-2), 2) := by decide +kernel
theorem dX4_group_30 : decode cX4_group 30 = .ok (.goto 12, 3) := by decide +kernel
theorem dX4_group_33 : decode cX4_group 33 = .ok (.aload_n 0, 1) := by decide +kernel
theorem dX4_group_34 : decode cX4_group 34 = .ok (.iconst 3, 1) := by decide +kernel
theorem dX4_group_35 : decode cX4_group 35 = .ok (.iload_n 1, 1) := by decide +kernel
theorem dX4_group_36 : decode cX4_group 36 = .ok (.iconst 0, 1) := by decide +kernel
theorem dX4_group_37 : decode cX4_group 37 = .ok (.iload_n 2, 1) := by decide +kernel
theorem dX4_group_38 : decode cX4_group 38 = .ok (.lconst 0, 1) := by decide +kernel
theorem dX4_group_39 : decode cX4_group 39 = .ok (.invokevirtual 77, 3) := by decide +kernel
theorem dX4_group_42 : decode cX4_group 42 = .ok (.ireturn, 1) := by decide +kernel
theorem dX4_row_0 : decode cX4_row 0 = .ok (.aload_n 0, 1) := by decide +kernel
theorem dX4_row_1 : decode cX4_row 1 = .ok (.iload_n 1, 1) := by decide +kernel
theorem dX4_row_2 : decode cX4_row 2 = .ok (.ifCond .lt 15, 3) := by decide +kernel
theorem dX4_row_5 : decode cX4_row 5 = .ok (.iload_n 1, 1) := by decide +kernel
theorem dX4_row_6 : decode cX4_row 6 = .ok (.aload_n 0, 1) := by decide +kernel
theorem dX4_row_7 : decode cX4_row 7 = .ok (.getfield 68, 3) := by decide +kernel
theorem dX4_row_10 : decode cX4_row 10 = .ok (.if_icmp .ge 7, 3) := by decide +kernel
theorem dX4_row_13 : decode cX4_row 13 = .ok (.iconst 0, 1) := by decide +kernel
theorem dX4_row_14 : decode cX4_row 14 = .ok (.goto 4, 3) := by decide +kernel
theorem dX4_row_17 : decode cX4_row 17 = .ok (.iconst 1, 1) := by decide +kernel
theorem dX4_row_18 : decode cX4_row 18 = .ok (.putfield 61, 3) := by decide +kernel
theorem dX4_row_21 : decode cX4_row 21 = .ok (.aload_n 0, 1) := by decide +kernel
theorem dX4_row_22 : decode cX4_row 22 = .ok (.getfield 61, 3) := by decide +kernel
theorem dX4_row_25 : decode cX4_row 25 = .ok (.ifCond .le 7, 3) := by decide +kernel
theorem dX4_row_28 : decode cX4_row 28 = .ok (.iconst 0, 1) := by decide +kernel
theorem dX4_row_29 : decode cX4_row 29 = .ok (.goto 39, 3) := by decide +kernel
theorem dX4_row_32 : decode cX4_row 32 = .ok (.aload_n 0, 1) := by decide +kernel
theorem dX4_row_33 : decode cX4_row 33 = .ok (.getfield 19, 3) := by decide +kernel
theorem dX4_row_36 : decode cX4_row 36 = .ok (.iload_n 1, 1) := by decide +kernel
theorem dX4_row_37 : decode cX4_row 37 = .ok (.iaload, 1) := by decide +kernel
theorem dX4_row_38 : decode cX4_row 38 = .ok (.bipush 8, 2) := by decide +kernel
theorem dX4_row_40 : decode cX4_row 40 = .ok (.imul, 1) := by decide +kernel
theorem dX4_row_41 : decode cX4_row 41 = .ok (.aload_n 0, 1) := by decide +kernel
theorem dX4_row_42 : decode cX4_row 42 = .ok (.getfield 22, 3) := by decide +kernel
theorem dX4_row_45 : decode cX4_row 45 = .ok (.iload_n 1, 1) := by decide +kernel
theorem dX4_row_46 : decode cX4_row 46 = .ok (.iaload, 1) := by decide +kernel
theorem dX4_row_47 : decode cX4_row 47 = .ok (.iadd, 1) := by decide +kernel
theorem dX4_row_48 : decode cX4_row 48 = .ok (.bipush 8, 2) := by decide +kernel
theorem dX4_row_50 : decode cX4_row 50 = .ok (.imul, 1) := by decide +kernel
theorem dX4_row_51 : decode cX4_row 51 = .ok (.aload_n 0, 1) := by decide +kernel
theorem dX4_row_52 : decode cX4_row 52 = .ok (.getfield 25, 3) := by decide +kernel
theorem dX4_row_55 : decode cX4_row 55 = .ok (.iload_n 1, 1) := by decide +kernel
theorem dX4_row_56 : decode cX4_row 56 = .ok (.iaload, 1) := by decide +kernel
theorem dX4_row_57 : decode cX4_row 57 = .ok (.iadd, 1) := by decide +kernel
theorem dX4_row_58 : decode cX4_row 58 = .ok (.bipush 8, 2) := by decide +kernel
theorem dX4_row_60 : decode cX4_row 60 = .ok (.imul, 1) := by decide +kernel
theorem dX4_row_61 : decode cX4_row 61 = .ok (.aload_n 0, 1) := by decide +kernel
theorem dX4_row_62 : decode cX4_row 62 = .ok (.getfield 28, 3) := by decide +kernel
theorem dX4_row_65 : decode cX4_row 65 = .ok (.iload_n 1, 1) := by decide +kernel
theorem dX4_row_66 : decode cX4_row 66 = .ok (.iaload, 1) := by decide +kernel
theorem dX4_row_67 : decode cX4_row 67 = .ok (.iadd, 1) := by decide +kernel
theorem dX4_row_68 : decode cX4_row 68 = .ok (.ireturn, 1) := by decide +kernel
theorem dX4_begin_0 : decode cX4_begin 0 = .ok (.iconst 0, 1) := by decide +kernel
theorem dX4_begin_1 : decode cX4_begin 1 = .ok (.istore_n 1, 1) := by decide +kernel
theorem dX4_begin_2 : decode cX4_begin 2 = .ok (.iload_n 1, 1) := by decide +kernel
theorem dX4_begin_3 : decode cX4_begin 3 = .ok (.aload_n 0, 1) := by decide +kernel
theorem dX4_begin_4 : decode cX4_begin 4 = .ok (.getfield 65, 3) := by decide +kernel
theorem dX4_begin_7 : decode cX4_begin 7 = .ok (.if_icmp .ge 37, 3) := by decide +kernel
theorem dX4_begin_10 : decode cX4_begin 10 = .ok (.aload_n 0, 1) := by decide +kernel
theorem dX4_begin_11 : decode cX4_begin 11 = .ok (.getfield 37, 3) := by decide +kernel
theorem dX4_begin_14 : decode cX4_begin 14 = .ok (.iload_n 1, 1) := by decide +kernel
theorem dX4_begin_15 : decode cX4_begin 15 = .ok (.iconst 1, 1) := by decide +kernel
theorem dX4_begin_16 : decode cX4_begin 16 = .ok (.aload_n 0, 1) := by decide +kernel
theorem dX4_begin_17 : decode cX4_begin 17 = .ok (.getfield 7, 3) := by decide +kernel
theorem dX4_begin_20 : decode cX4_begin 20 = .ok (.iload_n 1, 1) := by decide +kernel
theorem dX4_begin_21 : decode cX4_begin 21 = .ok (.iaload, 1) := by decide +kernel
theorem dX4_begin_22 : decode cX4_begin 22 = .ok (.ishl, 1) := by decide +kernel
theorem dX4_begin_23 : decode cX4_begin 23 = .ok (.iconst 1, 1) := by decide +kernel
theorem dX4_begin_24 : decode cX4_begin 24 = .ok (.isub, 1) := by decide +kernel
theorem dX4_begin_25 : decode cX4_begin 25 = .ok (.aload_n 0, 1) := by decide +kernel
theorem dX4_begin_26 : decode cX4_begin 26 = .ok (.getfield 16, 3) := by decide +kernel
theorem dX4_begin_29 : decode cX4_begin 29 = .ok (.iload_n 1, 1) := by decide +kernel
theorem dX4_begin_30 : decode cX4_begin 30 = .ok (.iaload, 1) := by decide +kernel
theorem dX4_begin_31 : decode cX4_begin 31 = .ok (.iconst (-1), 1) := by decide +kernel
theorem dX4_begin_32 : decode cX4_begin 32 = .ok (.ixor, 1) := by decide +kernel
theorem dX4_begin_33 : decode cX4_begin 33 = .ok (.iand, 1) := by decide +kernel
theorem dX4_begin_34 : decode cX4_begin 34 = .ok (.bipush 64, 2) := by decide +kernel
theorem dX4_begin_36 : decode cX4_begin 36 = .ok (.ior, 1) := by decide +kernel
theorem dX4_begin_37 : decode cX4_begin 37 = .ok (.iastore, 1) := by decide +kernel
theorem dX4_begin_38 : decode cX4_begin 38 = .ok (.iinc 1 1, 3) := by decide +kernel
theorem dX4_begin_41 : decode cX4_begin 41 = .ok (.goto (-39), 3) := by decide +kernel
theorem dX4_begin_44 : decode cX4_begin 44 = .ok (.iconst 0, 1) := by decide +kernel
theorem dX4_begin_45 : decode cX4_begin 45 = .ok (.istore_n 1, 1) := by decide +kernel
theorem dX4_begin_46 : decode cX4_begin 46 = .ok (.iload_n 1, 1) := by decide +kernel
theorem dX4_begin_47 : decode cX4_begin 47 = .ok (.aload_n 0, 1) := by decide +kernel
theorem dX4_begin_48 : decode cX4_begin 48 = .ok (.getfield 68, 3) := by decide +kernel
theorem dX4_begin_51 : decode cX4_begin 51 = .ok (.if_icmp .ge 125, 3) := by decide +kernel
theorem dX4_begin_54 : decode cX4_begin 54 = .ok (.aload_n 0, 1) := by decide +kernel
theorem dX4_begin_55 : decode cX4_begin 55 = .ok (.getfield 22, 3) := by decide +kernel
theorem dX4_begin_58 : decode cX4_begin 58 = .ok (.iload_n 1, 1) := by decide +kernel
theorem dX4_begin_59 : decode cX4_begin 59 = .ok (.iaload, 1) := by decide +kernel
theorem dX4_begin_60 : decode cX4_begin 60 = .ok (.istore_n 2, 1) := by decide +kernel
theorem dX4_begin_61 : decode cX4_begin 61 = .ok (.aload_n 0, 1) := by decide +kernel
theorem dX4_begin_62 : decode cX4_begin 62 = .ok (.getfield 19, 3) := by decide +kernel
theorem dX4_begin_65 : decode cX4_begin 65 = .ok (.iload_n 1, 1) := by decide +kernel
theorem dX4_begin_66 : decode cX4_begin 66 = .ok (.iaload, 1) := by decide +kernel
theorem dX4_begin_67 : decode cX4_begin 67 = .ok (.iconst 1, 1) := by decide +kernel
theorem dX4_begin_68 : decode cX4_begin 68 = .ok (.if_icmp .ne 18, 3) := by decide +kernel
theorem dX4_begin_71 : decode cX4_begin 71 = .ok (.aload_n 0, 1) := by decide +kernel
theorem dX4_begin_72 : decode cX4_begin 72 = .ok (.getfield 37, 3) := by decide +kernel
theorem dX4_begin_75 : decode cX4_begin 75 = .ok (.iload_n 2, 1) := by decide +kernel
theorem dX4_begin_76 : decode cX4_begin 76 = .ok (.dup2, 1) := by decide +kernel
theorem dX4_begin_77 : decode cX4_begin 77 = .ok (.iaload, 1) := by decide +kernel
theorem dX4_begin_78 : decode cX4_begin 78 = .ok (.aload_n 0, 1) := by decide +kernel
theorem dX4_begin_79 : decode cX4_begin 79 = .ok (.getfield 31, 3) := by decide +kernel
theorem dX4_begin_82 : decode cX4_begin 82 = .ok (.iload_n 1, 1) := by decide +kernel
theorem dX4_begin_83 : decode cX4_begin 83 = .ok (.iaload, 1) := by decide +kernel
theorem dX4_begin_84 : decode cX4_begin 84 = .ok (.iand, 1) := by decide +kernel
theorem dX4_begin_85 : decode cX4_begin 85 = .ok (.iastore, 1) := by decide +kernel
theorem dX4_begin_86 : decode cX4_begin 86 = .ok (.aload_n 0, 1) := by decide +kernel
theorem dX4_begin_87 : decode cX4_begin 87 = .ok (.getfield 19, 3) := by decide +kernel
theorem dX4_begin_90 : decode cX4_begin 90 = .ok (.iload_n 1, 1) := by decide +kernel
theorem dX4_begin_91 : decode cX4_begin 91 = .ok (.iaload, 1) := by decide +kernel
theorem dX4_begin_92 : decode cX4_begin 92 = .ok (.iconst 2, 1) := by decide +kernel
theorem dX4_begin_93 : decode cX4_begin 93 = .ok (.if_icmp .ne 21, 3) := by decide +kernel
theorem dX4_begin_96 : decode cX4_begin 96 = .ok (.aload_n 0, 1) := by decide +kernel
theorem dX4_begin_97 : decode cX4_begin 97 = .ok (.getfield 37, 3) := by decide +kernel
theorem dX4_begin_100 : decode cX4_begin 100 = .ok (.iload_n 2, 1) := by decide +kernel
theorem dX4_begin_101 : decode cX4_begin 101 = .ok (.dup2, 1) := by decide +kernel
theorem dX4_begin_102 : decode cX4_begin 102 = .ok (.iaload, 1) := by decide +kernel
theorem dX4_begin_103 : decode cX4_begin 103 = .ok (.aload_n 0, 1) := by decide +kernel
theorem dX4_begin_104 : decode cX4_begin 104 = .ok (.getfield 31, 3) := by decide +kernel
theorem dX4_begin_107 : decode cX4_begin 107 = .ok (.iload_n 1, 1) := by decide +kernel
theorem dX4_begin_108 : decode cX4_begin 108 = .ok (.iaload, 1) := by decide +kernel
theorem dX4_begin_109 : decode cX4_begin 109 = .ok (.bipush 64, 2) := by decide +kernel
theorem dX4_begin_111 : decode cX4_begin 111 = .ok (.ior, 1) := by decide +kernel
theorem dX4_begin_112 : decode cX4_begin 112 = .ok (.iand, 1) := by decide +kernel
theorem dX4_begin_113 : decode cX4_begin 113 = .ok (.iastore, 1) := by decide +kernel
theorem dX4_begin_114 : decode cX4_begin 114 = .ok (.aload_n 0, 1) := by decide +kernel
theorem dX4_begin_115 : decode cX4_begin 115 = .ok (.getfield 19, 3) := by decide +kernel
theorem dX4_begin_118 : decode cX4_begin 118 = .ok (.iload_n 1, 1) := by decide +kernel
theorem dX4_begin_119 : decode cX4_begin 119 = .ok (.iaload, 1) := by decide +kernel
theorem dX4_begin_120 : decode cX4_begin 120 = .ok (.ifCond .ne 50, 3) := by decide +kernel
theorem dX4_begin_123 : decode cX4_begin 123 = .ok (.aload_n 0, 1) := by decide +kernel
theorem dX4_begin_124 : decode cX4_begin 124 = .ok (.getfield 28, 3) := by decide +kernel
theorem dX4_begin_127 : decode cX4_begin 127 = .ok (.iload_n 1, 1) := by decide +kernel
theorem dX4_begin_128 : decode cX4_begin 128 = .ok (.iaload, 1) := by decide +kernel
theorem dX4_begin_129 : decode cX4_begin 129 = .ok (.iload_n 2, 1) := by decide +kernel
theorem dX4_begin_130 : decode cX4_begin 130 = .ok (.if_icmp .ne 40, 3) := by decide +kernel
theorem dX4_begin_133 : decode cX4_begin 133 = .ok (.aload_n 0, 1) := by decide +kernel
theorem dX4_begin_134 : decode cX4_begin 134 = .ok (.getfield 31, 3) := by decide +kernel
theorem dX4_begin_137 : decode cX4_begin 137 = .ok (.iload_n 1, 1) := by decide +kernel
theorem dX4_begin_138 : decode cX4_begin 138 = .ok (.iaload, 1) := by decide +kernel
theorem dX4_begin_139 : decode cX4_begin 139 = .ok (.aload_n 0, 1) := by decide +kernel
theorem dX4_begin_140 : decode cX4_begin 140 = .ok (.getfield 25, 3) := by decide +kernel
theorem dX4_begin_143 : decode cX4_begin 143 = .ok (.iload_n 1, 1) := by decide +kernel
theorem dX4_begin_144 : decode cX4_begin 144 = .ok (.iaload, 1) := by decide +kernel
theorem dX4_begin_145 : decode cX4_begin 145 = .ok (.ishr, 1) := by decide +kernel
theorem dX4_begin_146 : decode cX4_begin 146 = .ok (.iconst 1, 1) := by decide +kernel
theorem dX4_begin_147 : decode cX4_begin 147 = .ok (.iand, 1) := by decide +kernel
theorem dX4_begin_148 : decode cX4_begin 148 = .ok (.ifCond .ne 22, 3) := by decide +kernel
theorem dX4_begin_151 : decode cX4_begin 151 = .ok (.aload_n 0, 1) := by decide +kernel
theorem dX4_begin_152 : decode cX4_begin 152 = .ok (.getfield 37, 3) := by decide +kernel
theorem dX4_begin_155 : decode cX4_begin 155 = .ok (.iload_n 2, 1) := by decide +kernel
theorem dX4_begin_156 : decode cX4_begin 156 = .ok (.dup2, 1) := by decide +kernel
theorem dX4_begin_157 : decode cX4_begin 157 = .ok (.iaload, 1) := by decide +kernel
theorem dX4_begin_158 : decode cX4_begin 158 = .ok (.iconst 1, 1) := by decide +kernel
theorem dX4_begin_159 : decode cX4_begin 159 = .ok (.aload_n 0, 1) := by decide +kernel
theorem dX4_begin_160 : decode cX4_begin 160 = .ok (.getfield 25, 3) := by decide +kernel
theorem dX4_begin_163 : decode cX4_begin 163 = .ok (.iload_n 1, 1) := by decide +kernel
theorem dX4_begin_164 : decode cX4_begin 164 = .ok (.iaload, 1) := by decide +kernel
theorem dX4_begin_165 : decode cX4_begin 165 = .ok (.ishl, 1) := by decide +kernel
theorem dX4_begin_166 : decode cX4_begin 166 = .ok (.iconst (-1), 1) := by decide +kernel
theorem dX4_begin_167 : decode cX4_begin 167 = .ok (.ixor, 1) := by decide +kernel
theorem dX4_begin_168 : decode cX4_begin 168 = .ok (.iand, 1) := by decide +kernel
theorem dX4_begin_169 : decode cX4_begin 169 = .ok (.iastore, 1) := by decide +kernel
theorem dX4_begin_170 : decode cX4_begin 170 = .ok (.iinc 1 1, 3) := by decide +kernel
theorem dX4_begin_173 : decode cX4_begin 173 = .ok (.goto (-127), 3) := by decide +kernel
theorem dX4_begin_176 : decode cX4_begin 176 = .ok (.return_, 1) := by decide +kernel
theorem dX4_leaves_0 : decode cX4_leaves 0 = .ok (.bipush 8, 2) := by decide +kernel
theorem dX4_leaves_2 : decode cX4_leaves 2 = .ok (.iload_n 1, 1) := by decide +kernel
theorem dX4_leaves_3 : decode cX4_leaves 3 = .ok (.iconst 1, 1) := by decide +kernel
theorem dX4_leaves_4 : decode cX4_leaves 4 = .ok (.iadd, 1) := by decide +kernel
theorem dX4_leaves_5 : decode cX4_leaves 5 = .ok (.imul, 1) := by decide +kernel
theorem dX4_leaves_6 : decode cX4_leaves 6 = .ok (.istore_n 3, 1) := by decide +kernel
theorem dX4_leaves_7 : decode cX4_leaves 7 = .ok (.iconst 0, 1) := by decide +kernel
theorem dX4_leaves_8 : decode cX4_leaves 8 = .ok (.istore 4, 2) := by decide +kernel
theorem dX4_leaves_10 : decode cX4_leaves 10 = .ok (.iload 4, 2) := by decide +kernel
theorem dX4_leaves_12 : decode cX4_leaves 12 = .ok (.aload_n 0, 1) := by decide +kernel
theorem dX4_leaves_13 : decode cX4_leaves 13 = .ok (.getfield 65, 3) := by decide +kernel
theorem dX4_leaves_16 : decode cX4_leaves 16 = .ok (.if_icmp .ge 30, 3) := by decide +kernel
theorem dX4_leaves_19 : decode cX4_leaves 19 = .ok (.aload_n 0, 1) := by decide +kernel
theorem dX4_leaves_20 : decode cX4_leaves 20 = .ok (.getfield 37, 3) := by decide +kernel
theorem dX4_leaves_23 : decode cX4_leaves 23 = .ok (.iload_n 3, 1) := by decide +kernel
theorem dX4_leaves_24 : decode cX4_leaves 24 = .ok (.iload 4, 2) := by decide +kernel
theorem dX4_leaves_26 : decode cX4_leaves 26 = .ok (.iadd, 1) := by decide +kernel
theorem dX4_leaves_27 : decode cX4_leaves 27 = .ok (.aload_n 0, 1) := by decide +kernel
theorem dX4_leaves_28 : decode cX4_leaves 28 = .ok (.getfield 37, 3) := by decide +kernel
theorem dX4_leaves_31 : decode cX4_leaves 31 = .ok (.iload_n 3, 1) := by decide +kernel
theorem dX4_leaves_32 : decode cX4_leaves 32 = .ok (.bipush 8, 2) := by decide +kernel
theorem dX4_leaves_34 : decode cX4_leaves 34 = .ok (.isub, 1) := by decide +kernel
theorem dX4_leaves_35 : decode cX4_leaves 35 = .ok (.iload 4, 2) := by decide +kernel
theorem dX4_leaves_37 : decode cX4_leaves 37 = .ok (.iadd, 1) := by decide +kernel
theorem dX4_leaves_38 : decode cX4_leaves 38 = .ok (.iaload, 1) := by decide +kernel
theorem dX4_leaves_39 : decode cX4_leaves 39 = .ok (.iastore, 1) := by decide +kernel
theorem dX4_leaves_40 : decode cX4_leaves 40 = .ok (.iinc 4 1, 3) := by decide +kernel
theorem dX4_leaves_43 : decode cX4_leaves 43 = .ok (.goto (-33), 3) := by decide +kernel
theorem dX4_leaves_46 : decode cX4_leaves 46 = .ok (.iconst 0, 1) := by decide +kernel
theorem dX4_leaves_47 : decode cX4_leaves 47 = .ok (.istore 4, 2) := by decide +kernel
theorem dX4_leaves_49 : decode cX4_leaves 49 = .ok (.iload 4, 2) := by decide +kernel
theorem dX4_leaves_51 : decode cX4_leaves 51 = .ok (.aload_n 0, 1) := by decide +kernel
theorem dX4_leaves_52 : decode cX4_leaves 52 = .ok (.getfield 68, 3) := by decide +kernel
theorem dX4_leaves_55 : decode cX4_leaves 55 = .ok (.if_icmp .ge 226, 3) := by decide +kernel
theorem dX4_leaves_58 : decode cX4_leaves 58 = .ok (.aload_n 0, 1) := by decide +kernel
theorem dX4_leaves_59 : decode cX4_leaves 59 = .ok (.getfield 22, 3) := by decide +kernel
theorem dX4_leaves_62 : decode cX4_leaves 62 = .ok (.iload 4, 2) := by decide +kernel
theorem dX4_leaves_64 : decode cX4_leaves 64 = .ok (.iaload, 1) := by decide +kernel
theorem dX4_leaves_65 : decode cX4_leaves 65 = .ok (.istore 5, 2) := by decide +kernel
theorem dX4_leaves_67 : decode cX4_leaves 67 = .ok (.aload_n 0, 1) := by decide +kernel
theorem dX4_leaves_68 : decode cX4_leaves 68 = .ok (.getfield 28, 3) := by decide +kernel
theorem dX4_leaves_71 : decode cX4_leaves 71 = .ok (.iload 4, 2) := by decide +kernel
theorem dX4_leaves_73 : decode cX4_leaves 73 = .ok (.iaload, 1) := by decide +kernel
theorem dX4_leaves_74 : decode cX4_leaves 74 = .ok (.istore 6, 2) := by decide +kernel
theorem dX4_leaves_76 : decode cX4_leaves 76 = .ok (.aload_n 0, 1) := by decide +kernel
theorem dX4_leaves_77 : decode cX4_leaves 77 = .ok (.getfield 19, 3) := by decide +kernel
theorem dX4_leaves_80 : decode cX4_leaves 80 = .ok (.iload 4, 2) := by decide +kernel
theorem dX4_leaves_82 : decode cX4_leaves 82 = .ok (.iaload, 1) := by decide +kernel
theorem dX4_leaves_83 : decode cX4_leaves 83 = .ok (.ifCond .ne 45, 3) := by decide +kernel
theorem dX4_leaves_86 : decode cX4_leaves 86 = .ok (.iload 5, 2) := by decide +kernel
theorem dX4_leaves_88 : decode cX4_leaves 88 = .ok (.iload_n 1, 1) := by decide +kernel
theorem dX4_leaves_89 : decode cX4_leaves 89 = .ok (.if_icmp .ne 39, 3) := by decide +kernel
theorem dX4_leaves_92 : decode cX4_leaves 92 = .ok (.aload_n 0, 1) := by decide +kernel
theorem dX4_leaves_93 : decode cX4_leaves 93 = .ok (.getfield 25, 3) := by decide +kernel
theorem dX4_leaves_96 : decode cX4_leaves 96 = .ok (.iload 4, 2) := by decide +kernel
theorem dX4_leaves_98 : decode cX4_leaves 98 = .ok (.iaload, 1) := by decide +kernel
theorem dX4_leaves_99 : decode cX4_leaves 99 = .ok (.iload_n 2, 1) := by decide +kernel
theorem dX4_leaves_100 : decode cX4_leaves 100 = .ok (.if_icmp .ne 28, 3) := by decide +kernel
theorem dX4_leaves_103 : decode cX4_leaves 103 = .ok (.iload 6, 2) := by decide +kernel
theorem dX4_leaves_105 : decode cX4_leaves 105 = .ok (.iload_n 1, 1) := by decide +kernel
theorem dX4_leaves_106 : decode cX4_leaves 106 = .ok (.if_icmp .le 22, 3) := by decide +kernel
theorem dX4_leaves_109 : decode cX4_leaves 109 = .ok (.aload_n 0, 1) := by decide +kernel
theorem dX4_leaves_110 : decode cX4_leaves 110 = .ok (.getfield 37, 3) := by decide +kernel
theorem dX4_leaves_113 : decode cX4_leaves 113 = .ok (.iload_n 3, 1) := by decide +kernel
theorem dX4_leaves_114 : decode cX4_leaves 114 = .ok (.iload 6, 2) := by decide +kernel
theorem dX4_leaves_116 : decode cX4_leaves 116 = .ok (.iadd, 1) := by decide +kernel
theorem dX4_leaves_117 : decode cX4_leaves 117 = .ok (.dup2, 1) := by decide +kernel
theorem dX4_leaves_118 : decode cX4_leaves 118 = .ok (.iaload, 1) := by decide +kernel
theorem dX4_leaves_119 : decode cX4_leaves 119 = .ok (.aload_n 0, 1) := by decide +kernel
theorem dX4_leaves_120 : decode cX4_leaves 120 = .ok (.getfield 31, 3) := by decide +kernel
theorem dX4_leaves_123 : decode cX4_leaves 123 = .ok (.iload 4, 2) := by decide +kernel
theorem dX4_leaves_125 : decode cX4_leaves 125 = .ok (.iaload, 1) := by decide +kernel
theorem dX4_leaves_126 : decode cX4_leaves 126 = .ok (.iand, 1) := by decide +kernel
theorem dX4_leaves_127 : decode cX4_leaves 127 = .ok (.iastore, 1) := by decide +kernel
theorem dX4_leaves_128 : decode cX4_leaves 128 = .ok (.aload_n 0, 1) := by decide +kernel
theorem dX4_leaves_129 : decode cX4_leaves 129 = .ok (.getfield 19, 3) := by decide +kernel
theorem dX4_leaves_132 : decode cX4_leaves 132 = .ok (.iload 4, 2) := by decide +kernel
theorem dX4_leaves_134 : decode cX4_leaves 134 = .ok (.iaload, 1) := by decide +kernel
theorem dX4_leaves_135 : decode cX4_leaves 135 = .ok (.ifCond .ne 58, 3) := by decide +kernel
theorem dX4_leaves_138 : decode cX4_leaves 138 = .ok (.iload 6, 2) := by decide +kernel
theorem dX4_leaves_140 : decode cX4_leaves 140 = .ok (.iload_n 1, 1) := by decide +kernel
theorem dX4_leaves_141 : decode cX4_leaves 141 = .ok (.if_icmp .ne 52, 3) := by decide +kernel
theorem dX4_leaves_144 : decode cX4_leaves 144 = .ok (.iload 5, 2) := by decide +kernel
theorem dX4_leaves_146 : decode cX4_leaves 146 = .ok (.iload_n 1, 1) := by decide +kernel
theorem dX4_leaves_147 : decode cX4_leaves 147 = .ok (.if_icmp .le 46, 3) := by decide +kernel
theorem dX4_leaves_150 : decode cX4_leaves 150 = .ok (.iload_n 2, 1) := by decide +kernel
theorem dX4_leaves_151 : decode cX4_leaves 151 = .ok (.bipush 6, 2) := by decide +kernel
theorem dX4_leaves_153 : decode cX4_leaves 153 = .ok (.if_icmp .eq 17, 3) := by decide +kernel
theorem dX4_leaves_156 : decode cX4_leaves 156 = .ok (.aload_n 0, 1) := by decide +kernel
theorem dX4_leaves_157 : decode cX4_leaves 157 = .ok (.getfield 31, 3) := by decide +kernel
theorem dX4_leaves_160 : decode cX4_leaves 160 = .ok (.iload 4, 2) := by decide +kernel
theorem dX4_leaves_162 : decode cX4_leaves 162 = .ok (.iaload, 1) := by decide +kernel
theorem dX4_leaves_163 : decode cX4_leaves 163 = .ok (.iload_n 2, 1) := by decide +kernel
theorem dX4_leaves_164 : decode cX4_leaves 164 = .ok (.ishr, 1) := by decide +kernel
theorem dX4_leaves_165 : decode cX4_leaves 165 = .ok (.iconst 1, 1) := by decide +kernel
theorem dX4_leaves_166 : decode cX4_leaves 166 = .ok (.iand, 1) := by decide +kernel
theorem dX4_leaves_167 : decode cX4_leaves 167 = .ok (.ifCond .ne 26, 3) := by decide +kernel
theorem dX4_leaves_170 : decode cX4_leaves 170 = .ok (.aload_n 0, 1) := by decide +kernel
theorem dX4_leaves_171 : decode cX4_leaves 171 = .ok (.getfield 37, 3) := by decide +kernel
theorem dX4_leaves_174 : decode cX4_leaves 174 = .ok (.iload_n 3, 1) := by decide +kernel
theorem dX4_leaves_175 : decode cX4_leaves 175 = .ok (.iload 5, 2) := by decide +kernel
theorem dX4_leaves_177 : decode cX4_leaves 177 = .ok (.iadd, 1) := by decide +kernel
theorem dX4_leaves_178 : decode cX4_leaves 178 = .ok (.dup2, 1) := by decide +kernel
theorem dX4_leaves_179 : decode cX4_leaves 179 = .ok (.iaload, 1) := by decide +kernel
theorem dX4_leaves_180 : decode cX4_leaves 180 = .ok (.iconst 1, 1) := by decide +kernel
theorem dX4_leaves_181 : decode cX4_leaves 181 = .ok (.aload_n 0, 1) := by decide +kernel
theorem dX4_leaves_182 : decode cX4_leaves 182 = .ok (.getfield 25, 3) := by decide +kernel
theorem dX4_leaves_185 : decode cX4_leaves 185 = .ok (.iload 4, 2) := by decide +kernel
theorem dX4_leaves_187 : decode cX4_leaves 187 = .ok (.iaload, 1) := by decide +kernel
theorem dX4_leaves_188 : decode cX4_leaves 188 = .ok (.ishl, 1) := by decide +kernel
theorem dX4_leaves_189 : decode cX4_leaves 189 = .ok (.iconst (-1), 1) := by decide +kernel
theorem dX4_leaves_190 : decode cX4_leaves 190 = .ok (.ixor, 1) := by decide +kernel
theorem dX4_leaves_191 : decode cX4_leaves 191 = .ok (.iand, 1) := by decide +kernel
theorem dX4_leaves_192 : decode cX4_leaves 192 = .ok (.iastore, 1) := by decide +kernel
theorem dX4_leaves_193 : decode cX4_leaves 193 = .ok (.aload_n 0, 1) := by decide +kernel
theorem dX4_leaves_194 : decode cX4_leaves 194 = .ok (.getfield 19, 3) := by decide +kernel
theorem dX4_leaves_197 : decode cX4_leaves 197 = .ok (.iload 4, 2) := by decide +kernel
theorem dX4_leaves_199 : decode cX4_leaves 199 = .ok (.iaload, 1) := by decide +kernel
theorem dX4_leaves_200 : decode cX4_leaves 200 = .ok (.iconst 3, 1) := by decide +kernel
theorem dX4_leaves_201 : decode cX4_leaves 201 = .ok (.if_icmp .ne 33, 3) := by decide +kernel
theorem dX4_leaves_204 : decode cX4_leaves 204 = .ok (.iload_n 2, 1) := by decide +kernel
theorem dX4_leaves_205 : decode cX4_leaves 205 = .ok (.bipush 6, 2) := by decide +kernel
theorem dX4_leaves_207 : decode cX4_leaves 207 = .ok (.if_icmp .eq 27, 3) := by decide +kernel
theorem dX4_leaves_210 : decode cX4_leaves 210 = .ok (.iload 5, 2) := by decide +kernel
theorem dX4_leaves_212 : decode cX4_leaves 212 = .ok (.iload_n 1, 1) := by decide +kernel
theorem dX4_leaves_213 : decode cX4_leaves 213 = .ok (.if_icmp .ne 21, 3) := by decide +kernel
theorem dX4_leaves_216 : decode cX4_leaves 216 = .ok (.aload_n 0, 1) := by decide +kernel
theorem dX4_leaves_217 : decode cX4_leaves 217 = .ok (.getfield 37, 3) := by decide +kernel
theorem dX4_leaves_220 : decode cX4_leaves 220 = .ok (.iload_n 3, 1) := by decide +kernel
theorem dX4_leaves_221 : decode cX4_leaves 221 = .ok (.iload 6, 2) := by decide +kernel
theorem dX4_leaves_223 : decode cX4_leaves 223 = .ok (.iadd, 1) := by decide +kernel
theorem dX4_leaves_224 : decode cX4_leaves 224 = .ok (.dup2, 1) := by decide +kernel
theorem dX4_leaves_225 : decode cX4_leaves 225 = .ok (.iaload, 1) := by decide +kernel
theorem dX4_leaves_226 : decode cX4_leaves 226 = .ok (.iconst 1, 1) := by decide +kernel
theorem dX4_leaves_227 : decode cX4_leaves 227 = .ok (.iload_n 2, 1) := by decide +kernel
theorem dX4_leaves_228 : decode cX4_leaves 228 = .ok (.ishl, 1) := by decide +kernel
theorem dX4_leaves_229 : decode cX4_leaves 229 = .ok (.bipush 64, 2) := by decide +kernel
theorem dX4_leaves_231 : decode cX4_leaves 231 = .ok (.ior, 1) := by decide +kernel
theorem dX4_leaves_232 : decode cX4_leaves 232 = .ok (.iand, 1) := by decide +kernel
theorem dX4_leaves_233 : decode cX4_leaves 233 = .ok (.iastore, 1) := by decide +kernel
theorem dX4_leaves_234 : decode cX4_leaves 234 = .ok (.aload_n 0, 1) := by decide +kernel
theorem dX4_leaves_235 : decode cX4_leaves 235 = .ok (.getfield 19, 3) := by decide +kernel
theorem dX4_leaves_238 : decode cX4_leaves 238 = .ok (.iload 4, 2) := by decide +kernel
theorem dX4_leaves_240 : decode cX4_leaves 240 = .ok (.iaload, 1) := by decide +kernel
theorem dX4_leaves_241 : decode cX4_leaves 241 = .ok (.iconst 3, 1) := by decide +kernel
theorem dX4_leaves_242 : decode cX4_leaves 242 = .ok (.if_icmp .ne 33, 3) := by decide +kernel
theorem dX4_leaves_245 : decode cX4_leaves 245 = .ok (.iload_n 2, 1) := by decide +kernel
theorem dX4_leaves_246 : decode cX4_leaves 246 = .ok (.bipush 6, 2) := by decide +kernel
theorem dX4_leaves_248 : decode cX4_leaves 248 = .ok (.if_icmp .eq 27, 3) := by decide +kernel
theorem dX4_leaves_251 : decode cX4_leaves 251 = .ok (.iload 6, 2) := by decide +kernel
theorem dX4_leaves_253 : decode cX4_leaves 253 = .ok (.iload_n 1, 1) := by decide +kernel
theorem dX4_leaves_254 : decode cX4_leaves 254 = .ok (.if_icmp .ne 21, 3) := by decide +kernel
theorem dX4_leaves_257 : decode cX4_leaves 257 = .ok (.aload_n 0, 1) := by decide +kernel
theorem dX4_leaves_258 : decode cX4_leaves 258 = .ok (.getfield 37, 3) := by decide +kernel
theorem dX4_leaves_261 : decode cX4_leaves 261 = .ok (.iload_n 3, 1) := by decide +kernel
theorem dX4_leaves_262 : decode cX4_leaves 262 = .ok (.iload 5, 2) := by decide +kernel
theorem dX4_leaves_264 : decode cX4_leaves 264 = .ok (.iadd, 1) := by decide +kernel
theorem dX4_leaves_265 : decode cX4_leaves 265 = .ok (.dup2, 1) := by decide +kernel
theorem dX4_leaves_266 : decode cX4_leaves 266 = .ok (.iaload, 1) := by decide +kernel
theorem dX4_leaves_267 : decode cX4_leaves 267 = .ok (.iconst 1, 1) := by decide +kernel
theorem dX4_leaves_268 : decode cX4_leaves 268 = .ok (.iload_n 2, 1) := by decide +kernel
theorem dX4_leaves_269 : decode cX4_leaves 269 = .ok (.ishl, 1) := by decide +kernel
theorem dX4_leaves_270 : decode cX4_leaves 270 = .ok (.bipush 64, 2) := by decide +kernel
theorem dX4_leaves_272 : decode cX4_leaves 272 = .ok (.ior, 1) := by decide +kernel
theorem dX4_leaves_273 : decode cX4_leaves 273 = .ok (.iand, 1) := by decide +kernel
theorem dX4_leaves_274 : decode cX4_leaves 274 = .ok (.iastore, 1) := by decide +kernel
theorem dX4_leaves_275 : decode cX4_leaves 275 = .ok (.iinc 4 1, 3) := by decide +kernel
theorem dX4_leaves_278 : decode cX4_leaves 278 = .ok (.goto (-229), 3) := by decide +kernel
theorem dX4_leaves_281 : decode cX4_leaves 281 = .ok (.iconst 1, 1) := by decide +kernel
theorem dX4_leaves_282 : decode cX4_leaves 282 = .ok (.istore 4, 2) := by decide +kernel
theorem dX4_leaves_284 : decode cX4_leaves 284 = .ok (.iload_n 1, 1) := by decide +kernel
theorem dX4_leaves_285 : decode cX4_leaves 285 = .ok (.iconst 1, 1) := by decide +kernel
theorem dX4_leaves_286 : decode cX4_leaves 286 = .ok (.iadd, 1) := by decide +kernel
theorem dX4_leaves_287 : decode cX4_leaves 287 = .ok (.istore 5, 2) := by decide +kernel
theorem dX4_leaves_289 : decode cX4_leaves 289 = .ok (.iload 5, 2) := by decide +kernel
theorem dX4_leaves_291 : decode cX4_leaves 291 = .ok (.aload_n 0, 1) := by decide +kernel
theorem dX4_leaves_292 : decode cX4_leaves 292 = .ok (.getfield 65, 3) := by decide +kernel
theorem dX4_leaves_295 : decode cX4_leaves 295 = .ok (.if_icmp .ge 33, 3) := by decide +kernel
theorem dX4_leaves_298 : decode cX4_leaves 298 = .ok (.iload 4, 2) := by decide +kernel
theorem dX4_leaves_300 : decode cX4_leaves 300 = .ok (.ifCond .eq 19, 3) := by decide +kernel
theorem dX4_leaves_303 : decode cX4_leaves 303 = .ok (.aload_n 0, 1) := by decide +kernel
theorem dX4_leaves_304 : decode cX4_leaves 304 = .ok (.getfield 37, 3) := by decide +kernel
theorem dX4_leaves_307 : decode cX4_leaves 307 = .ok (.iload_n 3, 1) := by decide +kernel
theorem dX4_leaves_308 : decode cX4_leaves 308 = .ok (.iload 5, 2) := by decide +kernel
theorem dX4_leaves_310 : decode cX4_leaves 310 = .ok (.iadd, 1) := by decide +kernel
theorem dX4_leaves_311 : decode cX4_leaves 311 = .ok (.iaload, 1) := by decide +kernel
theorem dX4_leaves_312 : decode cX4_leaves 312 = .ok (.ifCond .eq 7, 3) := by decide +kernel
theorem dX4_leaves_315 : decode cX4_leaves 315 = .ok (.iconst 1, 1) := by decide +kernel
theorem dX4_leaves_316 : decode cX4_leaves 316 = .ok (.goto 4, 3) := by decide +kernel
theorem dX4_leaves_319 : decode cX4_leaves 319 = .ok (.iconst 0, 1) := by decide +kernel
theorem dX4_leaves_320 : decode cX4_leaves 320 = .ok (.istore 4, 2) := by decide +kernel
theorem dX4_leaves_322 : decode cX4_leaves 322 = .ok (.iinc 5 1, 3) := by decide +kernel
theorem dX4_leaves_325 : decode cX4_leaves 325 = .ok (.goto (-36), 3) := by decide +kernel
theorem dX4_leaves_328 : decode cX4_leaves 328 = .ok (.iload 4, 2) := by decide +kernel
theorem dX4_leaves_330 : decode cX4_leaves 330 = .ok (.ireturn, 1) := by decide +kernel
theorem dX4_option_0 : decode cX4_option 0 = .ok (.aload_n 0, 1) := by decide +kernel
theorem dX4_option_1 : decode cX4_option 1 = .ok (.getfield 34, 3) := by decide +kernel
theorem dX4_option_4 : decode cX4_option 4 = .ok (.iload_n 1, 1) := by decide +kernel
theorem dX4_option_5 : decode cX4_option 5 = .ok (.iaload, 1) := by decide +kernel
theorem dX4_option_6 : decode cX4_option 6 = .ok (.iconst (-1), 1) := by decide +kernel
theorem dX4_option_7 : decode cX4_option 7 = .ok (.if_icmp .ne 8, 3) := by decide +kernel
theorem dX4_option_10 : decode cX4_option 10 = .ok (.bipush 6, 2) := by decide +kernel
theorem dX4_option_12 : decode cX4_option 12 = .ok (.goto 28, 3) := by decide +kernel
theorem dX4_option_15 : decode cX4_option 15 = .ok (.aload_n 0, 1) := by decide +kernel
theorem dX4_option_16 : decode cX4_option 16 = .ok (.getfield 34, 3) := by decide +kernel
theorem dX4_option_19 : decode cX4_option 19 = .ok (.iload_n 1, 1) := by decide +kernel
theorem dX4_option_20 : decode cX4_option 20 = .ok (.iaload, 1) := by decide +kernel
theorem dX4_option_21 : decode cX4_option 21 = .ok (.aload_n 0, 1) := by decide +kernel
theorem dX4_option_22 : decode cX4_option 22 = .ok (.getfield 7, 3) := by decide +kernel
theorem dX4_option_25 : decode cX4_option 25 = .ok (.iload_n 1, 1) := by decide +kernel
theorem dX4_option_26 : decode cX4_option 26 = .ok (.iaload, 1) := by decide +kernel
theorem dX4_option_27 : decode cX4_option 27 = .ok (.if_icmp .ge 12, 3) := by decide +kernel
theorem dX4_option_30 : decode cX4_option 30 = .ok (.aload_n 0, 1) := by decide +kernel
theorem dX4_option_31 : decode cX4_option 31 = .ok (.getfield 34, 3) := by decide +kernel
theorem dX4_option_34 : decode cX4_option 34 = .ok (.iload_n 1, 1) := by decide +kernel
theorem dX4_option_35 : decode cX4_option 35 = .ok (.iaload, 1) := by decide +kernel
theorem dX4_option_36 : decode cX4_option 36 = .ok (.goto 4, 3) := by decide +kernel
theorem dX4_option_39 : decode cX4_option 39 = .ok (.iconst (-1), 1) := by decide +kernel
theorem dX4_option_40 : decode cX4_option 40 = .ok (.istore_n 3, 1) := by decide +kernel
theorem dX4_option_41 : decode cX4_option 41 = .ok (.iload_n 2, 1) := by decide +kernel
theorem dX4_option_42 : decode cX4_option 42 = .ok (.ifCond .ne 5, 3) := by decide +kernel
theorem dX4_option_45 : decode cX4_option 45 = .ok (.iload_n 3, 1) := by decide +kernel
theorem dX4_option_46 : decode cX4_option 46 = .ok (.ireturn, 1) := by decide +kernel
theorem dX4_option_47 : decode cX4_option 47 = .ok (.iload_n 2, 1) := by decide +kernel
theorem dX4_option_48 : decode cX4_option 48 = .ok (.aload_n 0, 1) := by decide +kernel
theorem dX4_option_49 : decode cX4_option 49 = .ok (.getfield 7, 3) := by decide +kernel
theorem dX4_option_52 : decode cX4_option 52 = .ok (.iload_n 1, 1) := by decide +kernel
theorem dX4_option_53 : decode cX4_option 53 = .ok (.iaload, 1) := by decide +kernel
theorem dX4_option_54 : decode cX4_option 54 = .ok (.if_icmp .gt 14, 3) := by decide +kernel
theorem dX4_option_57 : decode cX4_option 57 = .ok (.aload_n 0, 1) := by decide +kernel
theorem dX4_option_58 : decode cX4_option 58 = .ok (.getfield 7, 3) := by decide +kernel
theorem dX4_option_61 : decode cX4_option 61 = .ok (.iload_n 1, 1) := by decide +kernel
theorem dX4_option_62 : decode cX4_option 62 = .ok (.iaload, 1) := by decide +kernel
theorem dX4_option_63 : decode cX4_option 63 = .ok (.iload_n 2, 1) := by decide +kernel
theorem dX4_option_64 : decode cX4_option 64 = .ok (.isub, 1) := by decide +kernel
theorem dX4_option_65 : decode cX4_option 65 = .ok (.goto 5, 3) := by decide +kernel
theorem dX4_option_68 : decode cX4_option 68 = .ok (.bipush 6, 2) := by decide +kernel
theorem dX4_option_70 : decode cX4_option 70 = .ok (.istore 4, 2) := by decide +kernel
theorem dX4_option_72 : decode cX4_option 72 = .ok (.iload 4, 2) := by decide +kernel
theorem dX4_option_74 : decode cX4_option 74 = .ok (.iload_n 3, 1) := by decide +kernel
theorem dX4_option_75 : decode cX4_option 75 = .ok (.if_icmp .ne 7, 3) := by decide +kernel
theorem dX4_option_78 : decode cX4_option 78 = .ok (.iconst (-1), 1) := by decide +kernel
theorem dX4_option_79 : decode cX4_option 79 = .ok (.goto 5, 3) := by decide +kernel
theorem dX4_option_82 : decode cX4_option 82 = .ok (.iload 4, 2) := by decide +kernel
theorem dX4_option_84 : decode cX4_option 84 = .ok (.ireturn, 1) := by decide +kernel
set_option maxRecDepth 20000 in
theorem ggX4_seek_X4_option : GoodIn wsX4_seek wsX4_option := goodIn_ca (goodIn_r _ [18, 8, 5, 29, 30, 31, 32, 33, 34, 35, 36, 37, 38, 39, 40, 41, 42, 43, 44, 45, 46, 47, 48, 49, 50, 51, 52, 53] (by decide +kernel) (by decide +kernel)) (goodIn_sub (fun _ h => List.mem_cons_of_mem _ (List.mem_append_right _ h)) (by decide +kernel))
set_option maxRecDepth 20000 in
theorem gX4_seek_X4_option : GoodIn wsX4_seek (wsV RX4 81 RX4 yX4_option wsX4_option) := goodIn_app (goodIn_of _ (by decide +kernel)) ggX4_seek_X4_option
set_option maxRecDepth 20000 in
theorem ggX4_seek_X4_leaves : GoodIn wsX4_seek wsX4_leaves := goodIn_ca (goodIn_r _ [22, 4, 6, 23, 24, 25, 26, 27, 28, 29, 30, 31, 32, 33, 34, 35, 36, 37, 38, 39, 40, 41, 42, 43, 44, 45, 46, 47, 48, 49, 50, 51, 52, 53] (by decide +kernel) (by decide +kernel)) (goodIn_sub (fun _ h => List.mem_cons_of_mem _ (List.mem_append_right _ h)) (by decide +kernel))
set_option maxRecDepth 20000 in
theorem gX4_seek_X4_leaves : GoodIn wsX4_seek (wsV RX4 85 RX4 yX4_leaves wsX4_leaves) := goodIn_app (goodIn_of _ (by decide +kernel)) ggX4_seek_X4_leaves
theorem dX4_seek_0 : decode cX4_seek 0 = .ok (.iconst 0, 1) := by decide +kernel
theorem dX4_seek_1 : decode cX4_seek 1 = .ok (.istore_n 1, 1) := by decide +kernel
theorem dX4_seek_2 : decode cX4_seek 2 = .ok (.aload_n 0, 1) := by decide +kernel
theorem dX4_seek_3 : decode cX4_seek 3 = .ok (.getfield 52, 3) := by decide +kernel
theorem dX4_seek_6 : decode cX4_seek 6 = .ok (.iconst 0, 1) := by decide +kernel
theorem dX4_seek_7 : decode cX4_seek 7 = .ok (.iconst 0, 1) := by decide +kernel
theorem dX4_seek_8 : decode cX4_seek 8 = .ok (.iastore, 1) := by decide +kernel
theorem dX4_seek_9 : decode cX4_seek 9 = .ok (.aload_n 0, 1) := by decide +kernel
theorem dX4_seek_10 : decode cX4_seek 10 = .ok (.getfield 55, 3) := by decide +kernel
theorem dX4_seek_13 : decode cX4_seek 13 = .ok (.iconst 0, 1) := by decide +kernel
theorem dX4_seek_14 : decode cX4_seek 14 = .ok (.iconst 0, 1) := by decide +kernel
theorem dX4_seek_15 : decode cX4_seek 15 = .ok (.iastore, 1) := by decide +kernel
theorem dX4_seek_16 : decode cX4_seek 16 = .ok (.aload_n 0, 1) := by decide +kernel
theorem dX4_seek_17 : decode cX4_seek 17 = .ok (.getfield 58, 3) := by decide +kernel
theorem dX4_seek_20 : decode cX4_seek 20 = .ok (.iconst 0, 1) := by decide +kernel
theorem dX4_seek_21 : decode cX4_seek 21 = .ok (.iconst 0, 1) := by decide +kernel
theorem dX4_seek_22 : decode cX4_seek 22 = .ok (.iastore, 1) := by decide +kernel
theorem dX4_seek_23 : decode cX4_seek 23 = .ok (.iload_n 1, 1) := by decide +kernel
theorem dX4_seek_24 : decode cX4_seek 24 = .ok (.ifCond .lt 235, 3) := by decide +kernel
theorem dX4_seek_27 : decode cX4_seek 27 = .ok (.iload_n 1, 1) := by decide +kernel
theorem dX4_seek_28 : decode cX4_seek 28 = .ok (.aload_n 0, 1) := by decide +kernel
theorem dX4_seek_29 : decode cX4_seek 29 = .ok (.getfield 65, 3) := by decide +kernel
theorem dX4_seek_32 : decode cX4_seek 32 = .ok (.if_icmp .ge 227, 3) := by decide +kernel
theorem dX4_seek_35 : decode cX4_seek 35 = .ok (.aload_n 0, 1) := by decide +kernel
theorem dX4_seek_36 : decode cX4_seek 36 = .ok (.getfield 52, 3) := by decide +kernel
theorem dX4_seek_39 : decode cX4_seek 39 = .ok (.iload_n 1, 1) := by decide +kernel
theorem dX4_seek_40 : decode cX4_seek 40 = .ok (.iaload, 1) := by decide +kernel
theorem dX4_seek_41 : decode cX4_seek 41 = .ok (.istore_n 2, 1) := by decide +kernel
theorem dX4_seek_42 : decode cX4_seek 42 = .ok (.aload_n 0, 1) := by decide +kernel
theorem dX4_seek_43 : decode cX4_seek 43 = .ok (.getfield 52, 3) := by decide +kernel
theorem dX4_seek_46 : decode cX4_seek 46 = .ok (.iload_n 1, 1) := by decide +kernel
theorem dX4_seek_47 : decode cX4_seek 47 = .ok (.dup2, 1) := by decide +kernel
theorem dX4_seek_48 : decode cX4_seek 48 = .ok (.iaload, 1) := by decide +kernel
theorem dX4_seek_49 : decode cX4_seek 49 = .ok (.iconst 1, 1) := by decide +kernel
theorem dX4_seek_50 : decode cX4_seek 50 = .ok (.iadd, 1) := by decide +kernel
theorem dX4_seek_51 : decode cX4_seek 51 = .ok (.iastore, 1) := by decide +kernel
theorem dX4_seek_52 : decode cX4_seek 52 = .ok (.iload_n 2, 1) := by decide +kernel
theorem dX4_seek_53 : decode cX4_seek 53 = .ok (.aload_n 0, 1) := by decide +kernel
theorem dX4_seek_54 : decode cX4_seek 54 = .ok (.getfield 7, 3) := by decide +kernel
theorem dX4_seek_57 : decode cX4_seek 57 = .ok (.iload_n 1, 1) := by decide +kernel
theorem dX4_seek_58 : decode cX4_seek 58 = .ok (.iaload, 1) := by decide +kernel
theorem dX4_seek_59 : decode cX4_seek 59 = .ok (.iconst 1, 1) := by decide +kernel
theorem dX4_seek_60 : decode cX4_seek 60 = .ok (.iadd, 1) := by decide +kernel
theorem dX4_seek_61 : decode cX4_seek 61 = .ok (.if_icmp .le 9, 3) := by decide +kernel
theorem dX4_seek_64 : decode cX4_seek 64 = .ok (.iinc 1 (-1), 3) := by decide +kernel
theorem dX4_seek_67 : decode cX4_seek 67 = .ok (.goto (-44), 3) := by decide +kernel
theorem dX4_seek_70 : decode cX4_seek 70 = .ok (.aload_n 0, 1) := by decide +kernel
theorem dX4_seek_71 : decode cX4_seek 71 = .ok (.iload_n 1, 1) := by decide +kernel
theorem dX4_seek_72 : decode cX4_seek 72 = .ok (.iload_n 2, 1) := by decide +kernel
theorem dX4_seek_73 : decode cX4_seek 73 = .ok (.invokevirtual 81, 3) := by decide +kernel
theorem dX4_seek_76 : decode cX4_seek 76 = .ok (.istore_n 3, 1) := by decide +kernel
theorem dX4_seek_77 : decode cX4_seek 77 = .ok (.iload_n 3, 1) := by decide +kernel
theorem dX4_seek_78 : decode cX4_seek 78 = .ok (.iconst (-1), 1) := by decide +kernel
theorem dX4_seek_79 : decode cX4_seek 79 = .ok (.if_icmp .eq (-56), 3) := by decide +kernel
theorem dX4_seek_82 : decode cX4_seek 82 = .ok (.aload_n 0, 1) := by decide +kernel
theorem dX4_seek_83 : decode cX4_seek 83 = .ok (.getfield 37, 3) := by decide +kernel
theorem dX4_seek_86 : decode cX4_seek 86 = .ok (.bipush 8, 2) := by decide +kernel
theorem dX4_seek_88 : decode cX4_seek 88 = .ok (.iload_n 1, 1) := by decide +kernel
theorem dX4_seek_89 : decode cX4_seek 89 = .ok (.imul, 1) := by decide +kernel
theorem dX4_seek_90 : decode cX4_seek 90 = .ok (.iload_n 1, 1) := by decide +kernel
theorem dX4_seek_91 : decode cX4_seek 91 = .ok (.iadd, 1) := by decide +kernel
theorem dX4_seek_92 : decode cX4_seek 92 = .ok (.iaload, 1) := by decide +kernel
theorem dX4_seek_93 : decode cX4_seek 93 = .ok (.iload_n 3, 1) := by decide +kernel
theorem dX4_seek_94 : decode cX4_seek 94 = .ok (.ishr, 1) := by decide +kernel
theorem dX4_seek_95 : decode cX4_seek 95 = .ok (.iconst 1, 1) := by decide +kernel
theorem dX4_seek_96 : decode cX4_seek 96 = .ok (.iand, 1) := by decide +kernel
theorem dX4_seek_97 : decode cX4_seek 97 = .ok (.ifCond .eq (-74), 3) := by decide +kernel
theorem dX4_seek_100 : decode cX4_seek 100 = .ok (.aload_n 0, 1) := by decide +kernel
theorem dX4_seek_101 : decode cX4_seek 101 = .ok (.iload_n 1, 1) := by decide +kernel
theorem dX4_seek_102 : decode cX4_seek 102 = .ok (.iload_n 3, 1) := by decide +kernel
theorem dX4_seek_103 : decode cX4_seek 103 = .ok (.invokevirtual 85, 3) := by decide +kernel
theorem dX4_seek_106 : decode cX4_seek 106 = .ok (.ifCond .ne 6, 3) := by decide +kernel
theorem dX4_seek_109 : decode cX4_seek 109 = .ok (.goto (-86), 3) := by decide +kernel
theorem dX4_seek_112 : decode cX4_seek 112 = .ok (.aload_n 0, 1) := by decide +kernel
theorem dX4_seek_113 : decode cX4_seek 113 = .ok (.getfield 40, 3) := by decide +kernel
theorem dX4_seek_116 : decode cX4_seek 116 = .ok (.iload_n 1, 1) := by decide +kernel
theorem dX4_seek_117 : decode cX4_seek 117 = .ok (.iload_n 3, 1) := by decide +kernel
theorem dX4_seek_118 : decode cX4_seek 118 = .ok (.iastore, 1) := by decide +kernel
theorem dX4_seek_119 : decode cX4_seek 119 = .ok (.iload_n 3, 1) := by decide +kernel
theorem dX4_seek_120 : decode cX4_seek 120 = .ok (.bipush 6, 2) := by decide +kernel
theorem dX4_seek_122 : decode cX4_seek 122 = .ok (.if_icmp .ne 21, 3) := by decide +kernel
theorem dX4_seek_125 : decode cX4_seek 125 = .ok (.aload_n 0, 1) := by decide +kernel
theorem dX4_seek_126 : decode cX4_seek 126 = .ok (.getfield 34, 3) := by decide +kernel
theorem dX4_seek_129 : decode cX4_seek 129 = .ok (.iload_n 1, 1) := by decide +kernel
theorem dX4_seek_130 : decode cX4_seek 130 = .ok (.iaload, 1) := by decide +kernel
theorem dX4_seek_131 : decode cX4_seek 131 = .ok (.iconst (-1), 1) := by decide +kernel
theorem dX4_seek_132 : decode cX4_seek 132 = .ok (.if_icmp .ne 7, 3) := by decide +kernel
