theorem dX7_init_0 : decode cX7_init 0 = .ok (.aload_n 0, 1) := by decide +kernel
theorem dX7_init_1 : decode cX7_init 1 = .ok (.invokespecial 1, 3) := by decide +kernel
theorem dX7_init_4 : decode cX7_init 4 = .ok (.aload_n 0, 1) := by decide +kernel
theorem dX7_init_5 : decode cX7_init 5 = .ok (.iconst 4, 1) := by decide +kernel
theorem dX7_init_6 : decode cX7_init 6 = .ok (.newarray .int, 2) := by decide +kernel
theorem dX7_init_8 : decode cX7_init 8 = .ok (.putfield 7, 3) := by decide +kernel
theorem dX7_init_11 : decode cX7_init 11 = .ok (.aload_n 0, 1) := by decide +kernel
theorem dX7_init_12 : decode cX7_init 12 = .ok (.iconst 4, 1) := by decide +kernel
theorem dX7_init_13 : decode cX7_init 13 = .ok (.newarray .int, 2) := by decide +kernel
theorem dX7_init_15 : decode cX7_init 15 = .ok (.putfield 13, 3) := by decide +kernel
theorem dX7_init_18 : decode cX7_init 18 = .ok (.aload_n 0, 1) := by decide +kernel
theorem dX7_init_19 : decode cX7_init 19 = .ok (.iconst 4, 1) := by decide +kernel
theorem dX7_init_20 : decode cX7_init 20 = .ok (.newarray .int, 2) := by decide +kernel
theorem dX7_init_22 : decode cX7_init 22 = .ok (.putfield 16, 3) := by decide +kernel
theorem dX7_init_25 : decode cX7_init 25 = .ok (.aload_n 0, 1) := by decide +kernel
theorem dX7_init_26 : decode cX7_init 26 = .ok (.iconst (-1), 1) := by decide +kernel
theorem dX7_init_27 : decode cX7_init 27 = .ok (.putfield 19, 3) := by decide +kernel
theorem dX7_init_30 : decode cX7_init 30 = .ok (.aload_n 0, 1) := by decide +kernel
theorem dX7_init_31 : decode cX7_init 31 = .ok (.iconst 3, 1) := by decide +kernel
theorem dX7_init_32 : decode cX7_init 32 = .ok (.newarray .boolean, 2) := by decide +kernel
theorem dX7_init_34 : decode cX7_init 34 = .ok (.putfield 23, 3) := by decide +kernel
theorem dX7_init_37 : decode cX7_init 37 = .ok (.aload_n 0, 1) := by decide +kernel
theorem dX7_init_38 : decode cX7_init 38 = .ok (.bipush 6, 2) := by decide +kernel
theorem dX7_init_40 : decode cX7_init 40 = .ok (.newarray .int, 2) := by decide +kernel
theorem dX7_init_42 : decode cX7_init 42 = .ok (.putfield 27, 3) := by decide +kernel
theorem dX7_init_45 : decode cX7_init 45 = .ok (.aload_n 0, 1) := by decide +kernel
theorem dX7_init_46 : decode cX7_init 46 = .ok (.iconst 3, 1) := by decide +kernel
theorem dX7_init_47 : decode cX7_init 47 = .ok (.newarray .int, 2) := by decide +kernel
theorem dX7_init_49 : decode cX7_init 49 = .ok (.putfield 30, 3) := by decide +kernel
theorem dX7_init_52 : decode cX7_init 52 = .ok (.aload_n 0, 1) := by decide +kernel
theorem dX7_init_53 : decode cX7_init 53 = .ok (.bipush 120, 2) := by decide +kernel
theorem dX7_init_55 : decode cX7_init 55 = .ok (.newarray .int, 2) := by decide +kernel
theorem dX7_init_57 : decode cX7_init 57 = .ok (.putfield 33, 3) := by decide +kernel
theorem dX7_init_60 : decode cX7_init 60 = .ok (.aload_n 0, 1) := by decide +kernel
theorem dX7_init_61 : decode cX7_init 61 = .ok (.bipush 120, 2) := by decide +kernel
theorem dX7_init_63 : decode cX7_init 63 = .ok (.newarray .int, 2) := by decide +kernel
theorem dX7_init_65 : decode cX7_init 65 = .ok (.putfield 36, 3) := by decide +kernel
theorem dX7_init_68 : decode cX7_init 68 = .ok (.aload_n 0, 1) := by decide +kernel
theorem dX7_init_69 : decode cX7_init 69 = .ok (.sipush 240, 3) := by decide +kernel
theorem dX7_init_72 : decode cX7_init 72 = .ok (.newarray .int, 2) := by decide +kernel
theorem dX7_init_74 : decode cX7_init 74 = .ok (.putfield 39, 3) := by decide +kernel
theorem dX7_init_77 : decode cX7_init 77 = .ok (.aload_n 0, 1) := by decide +kernel
theorem dX7_init_78 : decode cX7_init 78 = .ok (.iconst 3, 1) := by decide +kernel
theorem dX7_init_79 : decode cX7_init 79 = .ok (.newarray .boolean, 2) := by decide +kernel
theorem dX7_init_81 : decode cX7_init 81 = .ok (.putfield 42, 3) := by decide +kernel
theorem dX7_init_84 : decode cX7_init 84 = .ok (.aload_n 0, 1) := by decide +kernel
theorem dX7_init_85 : decode cX7_init 85 = .ok (.bipush 6, 2) := by decide +kernel
theorem dX7_init_87 : decode cX7_init 87 = .ok (.newarray .int, 2) := by decide +kernel
theorem dX7_init_89 : decode cX7_init 89 = .ok (.putfield 45, 3) := by decide +kernel
theorem dX7_init_92 : decode cX7_init 92 = .ok (.aload_n 0, 1) := by decide +kernel
theorem dX7_init_93 : decode cX7_init 93 = .ok (.iconst 3, 1) := by decide +kernel
theorem dX7_init_94 : decode cX7_init 94 = .ok (.newarray .int, 2) := by decide +kernel
theorem dX7_init_96 : decode cX7_init 96 = .ok (.putfield 48, 3) := by decide +kernel
theorem dX7_init_99 : decode cX7_init 99 = .ok (.aload_n 0, 1) := by decide +kernel
theorem dX7_init_100 : decode cX7_init 100 = .ok (.bipush 120, 2) := by decide +kernel
theorem dX7_init_102 : decode cX7_init 102 = .ok (.newarray .int, 2) := by decide +kernel
theorem dX7_init_104 : decode cX7_init 104 = .ok (.putfield 51, 3) := by decide +kernel
theorem dX7_init_107 : decode cX7_init 107 = .ok (.aload_n 0, 1) := by decide +kernel
theorem dX7_init_108 : decode cX7_init 108 = .ok (.bipush 120, 2) := by decide +kernel
theorem dX7_init_110 : decode cX7_init 110 = .ok (.newarray .int, 2) := by decide +kernel
theorem dX7_init_112 : decode cX7_init 112 = .ok (.putfield 54, 3) := by decide +kernel
theorem dX7_init_115 : decode cX7_init 115 = .ok (.aload_n 0, 1) := by decide +kernel
theorem dX7_init_116 : decode cX7_init 116 = .ok (.sipush 240, 3) := by decide +kernel
theorem dX7_init_119 : decode cX7_init 119 = .ok (.newarray .int, 2) := by decide +kernel
theorem dX7_init_121 : decode cX7_init 121 = .ok (.putfield 57, 3) := by decide +kernel
theorem dX7_init_124 : decode cX7_init 124 = .ok (.aload_n 0, 1) := by decide +kernel
theorem dX7_init_125 : decode cX7_init 125 = .ok (.bipush 60, 2) := by decide +kernel
theorem dX7_init_127 : decode cX7_init 127 = .ok (.newarray .int, 2) := by decide +kernel
theorem dX7_init_129 : decode cX7_init 129 = .ok (.putfield 60, 3) := by decide +kernel
theorem dX7_init_132 : decode cX7_init 132 = .ok (.aload_n 0, 1) := by decide +kernel
theorem dX7_init_133 : decode cX7_init 133 = .ok (.bipush 60, 2) := by decide +kernel
theorem dX7_init_135 : decode cX7_init 135 = .ok (.newarray .int, 2) := by decide +kernel
theorem dX7_init_137 : decode cX7_init 137 = .ok (.putfield 63, 3) := by decide +kernel
theorem dX7_init_140 : decode cX7_init 140 = .ok (.aload_n 0, 1) := by decide +kernel
theorem dX7_init_141 : decode cX7_init 141 = .ok (.bipush 60, 2) := by decide +kernel
theorem dX7_init_143 : decode cX7_init 143 = .ok (.newarray .boolean, 2) := by decide +kernel
theorem dX7_init_145 : decode cX7_init 145 = .ok (.putfield 66, 3) := by decide +kernel
theorem dX7_init_148 : decode cX7_init 148 = .ok (.aload_n 0, 1) := by decide +kernel
theorem dX7_init_149 : decode cX7_init 149 = .ok (.bipush 60, 2) := by decide +kernel
theorem dX7_init_151 : decode cX7_init 151 = .ok (.newarray .int, 2) := by decide +kernel
theorem dX7_init_153 : decode cX7_init 153 = .ok (.putfield 69, 3) := by decide +kernel
theorem dX7_init_156 : decode cX7_init 156 = .ok (.aload_n 0, 1) := by decide +kernel
theorem dX7_init_157 : decode cX7_init 157 = .ok (.bipush 40, 2) := by decide +kernel
theorem dX7_init_159 : decode cX7_init 159 = .ok (.newarray .int, 2) := by decide +kernel
theorem dX7_init_161 : decode cX7_init 161 = .ok (.putfield 72, 3) := by decide +kernel
theorem dX7_init_164 : decode cX7_init 164 = .ok (.aload_n 0, 1) := by decide +kernel
theorem dX7_init_165 : decode cX7_init 165 = .ok (.bipush 40, 2) := by decide +kernel
theorem dX7_init_167 : decode cX7_init 167 = .ok (.newarray .int, 2) := by decide +kernel
theorem dX7_init_169 : decode cX7_init 169 = .ok (.putfield 75, 3) := by decide +kernel
theorem dX7_init_172 : decode cX7_init 172 = .ok (.aload_n 0, 1) := by decide +kernel
theorem dX7_init_173 : decode cX7_init 173 = .ok (.bipush 40, 2) := by decide +kernel
theorem dX7_init_175 : decode cX7_init 175 = .ok (.newarray .int, 2) := by decide +kernel
theorem dX7_init_177 : decode cX7_init 177 = .ok (.putfield 78, 3) := by decide +kernel
theorem dX7_init_180 : decode cX7_init 180 = .ok (.aload_n 0, 1) := by decide +kernel
theorem dX7_init_181 : decode cX7_init 181 = .ok (.bipush 40, 2) := by decide +kernel
theorem dX7_init_183 : decode cX7_init 183 = .ok (.newarray .int, 2) := by decide +kernel
theorem dX7_init_185 : decode cX7_init 185 = .ok (.putfield 81, 3) := by decide +kernel
theorem dX7_init_188 : decode cX7_init 188 = .ok (.aload_n 0, 1) := by decide +kernel
theorem dX7_init_189 : decode cX7_init 189 = .ok (.bipush 40, 2) := by decide +kernel
theorem dX7_init_191 : decode cX7_init 191 = .ok (.newarray .int, 2) := by decide +kernel
theorem dX7_init_193 : decode cX7_init 193 = .ok (.putfield 84, 3) := by decide +kernel
theorem dX7_init_196 : decode cX7_init 196 = .ok (.aload_n 0, 1) := by decide +kernel
theorem dX7_init_197 : decode cX7_init 197 = .ok (.bipush 40, 2) := by decide +kernel
theorem dX7_init_199 : decode cX7_init 199 = .ok (.newarray .int, 2) := by decide +kernel
theorem dX7_init_201 : decode cX7_init 201 = .ok (.putfield 87, 3) := by decide +kernel
theorem dX7_init_204 : decode cX7_init 204 = .ok (.aload_n 0, 1) := by decide +kernel
theorem dX7_init_205 : decode cX7_init 205 = .ok (.bipush 40, 2) := by decide +kernel
theorem dX7_init_207 : decode cX7_init 207 = .ok (.newarray .int, 2) := by decide +kernel
theorem dX7_init_209 : decode cX7_init 209 = .ok (.putfield 90, 3) := by decide +kernel
theorem dX7_init_212 : decode cX7_init 212 = .ok (.return_, 1) := by decide +kernel
theorem dX7_thrown_0 : decode cX7_thrown 0 = .ok (.aload_n 0, 1) := by decide +kernel
theorem dX7_thrown_1 : decode cX7_thrown 1 = .ok (.getfield 93, 3) := by decide +kernel
theorem dX7_thrown_4 : decode cX7_thrown 4 = .ok (.ireturn, 1) := by decide +kernel
theorem dX7_fails_0 : decode cX7_fails 0 = .ok (.aload_n 0, 1) := by decide +kernel
theorem dX7_fails_1 : decode cX7_fails 1 = .ok (.iload_n 1, 1) := by decide +kernel
theorem dX7_fails_2 : decode cX7_fails 2 = .ok (.putfield 93, 3) := by decide +kernel
theorem dX7_fails_5 : decode cX7_fails 5 = .ok (.iload_n 1, 1) := by decide +kernel
theorem dX7_fails_6 : decode cX7_fails 6 = .ok (.ifCond .le 7, 3) := by decide +kernel
theorem dX7_fails_9 : decode cX7_fails 9 = .ok (.iconst 1, 1) := by decide +kernel
theorem dX7_fails_10 : decode cX7_fails 10 = .ok (.goto 4, 3) := by decide +kernel
theorem dX7_fails_13 : decode cX7_fails 13 = .ok (.iconst 0, 1) := by decide +kernel
theorem dX7_fails_14 : decode cX7_fails 14 = .ok (.ireturn, 1) := by decide +kernel
theorem dX7_isIn_0 : decode cX7_isIn 0 = .ok (.iload_n 0, 1) := by decide +kernel
theorem dX7_isIn_1 : decode cX7_isIn 1 = .ok (.iload_n 1, 1) := by decide +kernel
theorem dX7_isIn_2 : decode cX7_isIn 2 = .ok (.if_icmp .lt 12, 3) := by decide +kernel
theorem dX7_isIn_5 : decode cX7_isIn 5 = .ok (.iload_n 0, 1) := by decide +kernel
theorem dX7_isIn_6 : decode cX7_isIn 6 = .ok (.iload_n 2, 1) := by decide +kernel
theorem dX7_isIn_7 : decode cX7_isIn 7 = .ok (.if_icmp .gt 7, 3) := by decide +kernel
theorem dX7_isIn_10 : decode cX7_isIn 10 = .ok (.iconst 1, 1) := by decide +kernel
theorem dX7_isIn_11 : decode cX7_isIn 11 = .ok (.goto 4, 3) := by decide +kernel
theorem dX7_isIn_14 : decode cX7_isIn 14 = .ok (.iconst 0, 1) := by decide +kernel
theorem dX7_isIn_15 : decode cX7_isIn 15 = .ok (.ireturn, 1) := by decide +kernel
set_option maxRecDepth 20000 in
theorem ggX7_isTab_X7_isIn : GoodIn wsX7_isTab wsX7_isIn := goodIn_r _ [4] (by decide +kernel) (by decide +kernel)
set_option maxRecDepth 20000 in
theorem gX7_isTab_X7_isIn : GoodIn wsX7_isTab (va_wsS RX7 96 yX7_isIn wsX7_isIn) := goodIn_app (goodIn_of _ (by decide +kernel)) ggX7_isTab_X7_isIn
theorem dX7_isTab_0 : decode cX7_isTab 0 = .ok (.iload_n 0, 1) := by decide +kernel
theorem dX7_isTab_1 : decode cX7_isTab 1 = .ok (.iconst 0, 1) := by decide +kernel
theorem dX7_isTab_2 : decode cX7_isTab 2 = .ok (.iconst 3, 1) := by decide +kernel
theorem dX7_isTab_3 : decode cX7_isTab 3 = .ok (.invokestatic 96, 3) := by decide +kernel
theorem dX7_isTab_6 : decode cX7_isTab 6 = .ok (.ireturn, 1) := by decide +kernel
set_option maxRecDepth 20000 in
theorem ggX7_isTransaction_X7_isIn : GoodIn wsX7_isTransaction wsX7_isIn := goodIn_r _ [5] (by decide +kernel) (by decide +kernel)
set_option maxRecDepth 20000 in
theorem gX7_isTransaction_X7_isIn : GoodIn wsX7_isTransaction (va_wsS RX7 96 yX7_isIn wsX7_isIn) := goodIn_app (goodIn_of _ (by decide +kernel)) ggX7_isTransaction_X7_isIn
theorem dX7_isTransaction_0 : decode cX7_isTransaction 0 = .ok (.iload_n 1, 1) := by decide +kernel
theorem dX7_isTransaction_1 : decode cX7_isTransaction 1 = .ok (.iconst 0, 1) := by decide +kernel
theorem dX7_isTransaction_2 : decode cX7_isTransaction 2 = .ok (.aload_n 0, 1) := by decide +kernel
theorem dX7_isTransaction_3 : decode cX7_isTransaction 3 = .ok (.getfield 100, 3) := by decide +kernel
theorem dX7_isTransaction_6 : decode cX7_isTransaction 6 = .ok (.iconst 1, 1) := by decide +kernel
theorem dX7_isTransaction_7 : decode cX7_isTransaction 7 = .ok (.isub, 1) := by decide +kernel
theorem dX7_isTransaction_8 : decode cX7_isTransaction 8 = .ok (.invokestatic 96, 3) := by decide +kernel
theorem dX7_isTransaction_11 : decode cX7_isTransaction 11 = .ok (.ireturn, 1) := by decide +kernel
set_option maxRecDepth 20000 in
theorem ggX7_isStore_X7_isIn : GoodIn wsX7_isStore wsX7_isIn := goodIn_r _ [5] (by decide +kernel) (by decide +kernel)
set_option maxRecDepth 20000 in
theorem gX7_isStore_X7_isIn : GoodIn wsX7_isStore (va_wsS RX7 96 yX7_isIn wsX7_isIn) := goodIn_app (goodIn_of _ (by decide +kernel)) ggX7_isStore_X7_isIn
theorem dX7_isStore_0 : decode cX7_isStore 0 = .ok (.iload_n 1, 1) := by decide +kernel
theorem dX7_isStore_1 : decode cX7_isStore 1 = .ok (.iconst 0, 1) := by decide +kernel
theorem dX7_isStore_2 : decode cX7_isStore 2 = .ok (.iconst 2, 1) := by decide +kernel
theorem dX7_isStore_3 : decode cX7_isStore 3 = .ok (.invokestatic 96, 3) := by decide +kernel
theorem dX7_isStore_6 : decode cX7_isStore 6 = .ok (.ifCond .eq 16, 3) := by decide +kernel
theorem dX7_isStore_9 : decode cX7_isStore 9 = .ok (.aload_n 0, 1) := by decide +kernel
theorem dX7_isStore_10 : decode cX7_isStore 10 = .ok (.getfield 23, 3) := by decide +kernel
theorem dX7_isStore_13 : decode cX7_isStore 13 = .ok (.iload_n 1, 1) := by decide +kernel
theorem dX7_isStore_14 : decode cX7_isStore 14 = .ok (.baload, 1) := by decide +kernel
theorem dX7_isStore_15 : decode cX7_isStore 15 = .ok (.ifCond .eq 7, 3) := by decide +kernel
theorem dX7_isStore_18 : decode cX7_isStore 18 = .ok (.iconst 1, 1) := by decide +kernel
theorem dX7_isStore_19 : decode cX7_isStore 19 = .ok (.goto 4, 3) := by decide +kernel
theorem dX7_isStore_22 : decode cX7_isStore 22 = .ok (.iconst 0, 1) := by decide +kernel
theorem dX7_isStore_23 : decode cX7_isStore 23 = .ok (.ireturn, 1) := by decide +kernel
set_option maxRecDepth 20000 in
theorem ggX7_isKey_X7_isIn : GoodIn wsX7_isKey wsX7_isIn := goodIn_r _ [7] (by decide +kernel) (by decide +kernel)
set_option maxRecDepth 20000 in
theorem gX7_isKey_X7_isIn : GoodIn wsX7_isKey (va_wsS RX7 96 yX7_isIn wsX7_isIn) := goodIn_app (goodIn_of _ (by decide +kernel)) ggX7_isKey_X7_isIn
theorem dX7_isKey_0 : decode cX7_isKey 0 = .ok (.iload_n 0, 1) := by decide +kernel
theorem dX7_isKey_1 : decode cX7_isKey 1 = .ok (.ldc 103, 2) := by decide +kernel
theorem dX7_isKey_3 : decode cX7_isKey 3 = .ok (.idiv, 1) := by decide +kernel
theorem dX7_isKey_4 : decode cX7_isKey 4 = .ok (.istore_n 1, 1) := by decide +kernel
theorem dX7_isKey_5 : decode cX7_isKey 5 = .ok (.iload_n 0, 1) := by decide +kernel
theorem dX7_isKey_6 : decode cX7_isKey 6 = .ok (.ldc 103, 2) := by decide +kernel
theorem dX7_isKey_8 : decode cX7_isKey 8 = .ok (.irem, 1) := by decide +kernel
theorem dX7_isKey_9 : decode cX7_isKey 9 = .ok (.istore_n 2, 1) := by decide +kernel
theorem dX7_isKey_10 : decode cX7_isKey 10 = .ok (.iload_n 0, 1) := by decide +kernel
theorem dX7_isKey_11 : decode cX7_isKey 11 = .ok (.iconst 0, 1) := by decide +kernel
theorem dX7_isKey_12 : decode cX7_isKey 12 = .ok (.ldc 104, 2) := by decide +kernel
theorem dX7_isKey_14 : decode cX7_isKey 14 = .ok (.invokestatic 96, 3) := by decide +kernel
theorem dX7_isKey_17 : decode cX7_isKey 17 = .ok (.ifCond .eq 8, 3) := by decide +kernel
theorem dX7_isKey_20 : decode cX7_isKey 20 = .ok (.iload_n 1, 1) := by decide +kernel
theorem dX7_isKey_21 : decode cX7_isKey 21 = .ok (.iconst 2, 1) := by decide +kernel
theorem dX7_isKey_22 : decode cX7_isKey 22 = .ok (.if_icmp .ge 26, 3) := by decide +kernel
theorem dX7_isKey_25 : decode cX7_isKey 25 = .ok (.iload_n 0, 1) := by decide +kernel
theorem dX7_isKey_26 : decode cX7_isKey 26 = .ok (.iconst 0, 1) := by decide +kernel
theorem dX7_isKey_27 : decode cX7_isKey 27 = .ok (.ldc 105, 2) := by decide +kernel
theorem dX7_isKey_29 : decode cX7_isKey 29 = .ok (.invokestatic 96, 3) := by decide +kernel
theorem dX7_isKey_32 : decode cX7_isKey 32 = .ok (.ifCond .eq 14, 3) := by decide +kernel
theorem dX7_isKey_35 : decode cX7_isKey 35 = .ok (.iload_n 2, 1) := by decide +kernel
theorem dX7_isKey_36 : decode cX7_isKey 36 = .ok (.sipush 1000, 3) := by decide +kernel
theorem dX7_isKey_39 : decode cX7_isKey 39 = .ok (.if_icmp .ge 7, 3) := by decide +kernel
theorem dX7_isKey_42 : decode cX7_isKey 42 = .ok (.iconst 1, 1) := by decide +kernel
theorem dX7_isKey_43 : decode cX7_isKey 43 = .ok (.goto 4, 3) := by decide +kernel
theorem dX7_isKey_46 : decode cX7_isKey 46 = .ok (.iconst 0, 1) := by decide +kernel
theorem dX7_isKey_47 : decode cX7_isKey 47 = .ok (.ireturn, 1) := by decide +kernel
theorem dX7_isKey_48 : decode cX7_isKey 48 = .ok (.iload_n 1, 1) := by decide +kernel
theorem dX7_isKey_49 : decode cX7_isKey 49 = .ok (.iconst 3, 1) := by decide +kernel
theorem dX7_isKey_50 : decode cX7_isKey 50 = .ok (.if_icmp .eq 7, 3) := by decide +kernel
theorem dX7_isKey_53 : decode cX7_isKey 53 = .ok (.iload_n 2, 1) := by decide +kernel
theorem dX7_isKey_54 : decode cX7_isKey 54 = .ok (.ifCond .le 7, 3) := by decide +kernel
theorem dX7_isKey_57 : decode cX7_isKey 57 = .ok (.iconst 1, 1) := by decide +kernel
theorem dX7_isKey_58 : decode cX7_isKey 58 = .ok (.goto 4, 3) := by decide +kernel
theorem dX7_isKey_61 : decode cX7_isKey 61 = .ok (.iconst 0, 1) := by decide +kernel
theorem dX7_isKey_62 : decode cX7_isKey 62 = .ok (.istore_n 3, 1) := by decide +kernel
theorem dX7_isKey_63 : decode cX7_isKey 63 = .ok (.iload_n 2, 1) := by decide +kernel
theorem dX7_isKey_64 : decode cX7_isKey 64 = .ok (.istore 4, 2) := by decide +kernel
theorem dX7_isKey_66 : decode cX7_isKey 66 = .ok (.iload 4, 2) := by decide +kernel
theorem dX7_isKey_68 : decode cX7_isKey 68 = .ok (.ifCond .le 42, 3) := by decide +kernel
theorem dX7_isKey_71 : decode cX7_isKey 71 = .ok (.iload_n 1, 1) := by decide +kernel
theorem dX7_isKey_72 : decode cX7_isKey 72 = .ok (.iconst 2, 1) := by decide +kernel
theorem dX7_isKey_73 : decode cX7_isKey 73 = .ok (.if_icmp .ne 37, 3) := by decide +kernel
theorem dX7_isKey_76 : decode cX7_isKey 76 = .ok (.iload_n 3, 1) := by decide +kernel
theorem dX7_isKey_77 : decode cX7_isKey 77 = .ok (.ifCond .eq 21, 3) := by decide +kernel
theorem dX7_isKey_80 : decode cX7_isKey 80 = .ok (.iload 4, 2) := by decide +kernel
theorem dX7_isKey_82 : decode cX7_isKey 82 = .ok (.bipush 100, 2) := by decide +kernel
theorem dX7_isKey_84 : decode cX7_isKey 84 = .ok (.irem, 1) := by decide +kernel
theorem dX7_isKey_85 : decode cX7_isKey 85 = .ok (.iconst 1, 1) := by decide +kernel
theorem dX7_isKey_86 : decode cX7_isKey 86 = .ok (.bipush 26, 2) := by decide +kernel
theorem dX7_isKey_88 : decode cX7_isKey 88 = .ok (.invokestatic 96, 3) := by decide +kernel
theorem dX7_isKey_91 : decode cX7_isKey 91 = .ok (.ifCond .eq 7, 3) := by decide +kernel
theorem dX7_isKey_94 : decode cX7_isKey 94 = .ok (.iconst 1, 1) := by decide +kernel
theorem dX7_isKey_95 : decode cX7_isKey 95 = .ok (.goto 4, 3) := by decide +kernel
theorem dX7_isKey_98 : decode cX7_isKey 98 = .ok (.iconst 0, 1) := by decide +kernel
theorem dX7_isKey_99 : decode cX7_isKey 99 = .ok (.istore_n 3, 1) := by decide +kernel
theorem dX7_isKey_100 : decode cX7_isKey 100 = .ok (.iload 4, 2) := by decide +kernel
theorem dX7_isKey_102 : decode cX7_isKey 102 = .ok (.bipush 100, 2) := by decide +kernel
theorem dX7_isKey_104 : decode cX7_isKey 104 = .ok (.idiv, 1) := by decide +kernel
theorem dX7_isKey_105 : decode cX7_isKey 105 = .ok (.istore 4, 2) := by decide +kernel
theorem dX7_isKey_107 : decode cX7_isKey 107 = .ok (.goto (-41), 3) := by decide +kernel
theorem dX7_isKey_110 : decode cX7_isKey 110 = .ok (.iload_n 3, 1) := by decide +kernel
theorem dX7_isKey_111 : decode cX7_isKey 111 = .ok (.ireturn, 1) := by decide +kernel
theorem dX7_rank_0 : decode cX7_rank 0 = .ok (.iload_n 0, 1) := by decide +kernel
theorem dX7_rank_1 : decode cX7_rank 1 = .ok (.ldc 103, 2) := by decide +kernel
theorem dX7_rank_3 : decode cX7_rank 3 = .ok (.irem, 1) := by decide +kernel
theorem dX7_rank_4 : decode cX7_rank 4 = .ok (.istore_n 1, 1) := by decide +kernel
theorem dX7_rank_5 : decode cX7_rank 5 = .ok (.iload_n 0, 1) := by decide +kernel
theorem dX7_rank_6 : decode cX7_rank 6 = .ok (.ldc 103, 2) := by decide +kernel
theorem dX7_rank_8 : decode cX7_rank 8 = .ok (.idiv, 1) := by decide +kernel
theorem dX7_rank_9 : decode cX7_rank 9 = .ok (.iconst 2, 1) := by decide +kernel
theorem dX7_rank_10 : decode cX7_rank 10 = .ok (.if_icmp .ne 36, 3) := by decide +kernel
theorem dX7_rank_13 : decode cX7_rank 13 = .ok (.iload_n 1, 1) := by decide +kernel
theorem dX7_rank_14 : decode cX7_rank 14 = .ok (.sipush 10000, 3) := by decide +kernel
theorem dX7_rank_17 : decode cX7_rank 17 = .ok (.if_icmp .ge 29, 3) := by decide +kernel
theorem dX7_rank_20 : decode cX7_rank 20 = .ok (.iload_n 1, 1) := by decide +kernel
theorem dX7_rank_21 : decode cX7_rank 21 = .ok (.ifCond .le 25, 3) := by decide +kernel
theorem dX7_rank_24 : decode cX7_rank 24 = .ok (.iload_n 1, 1) := by decide +kernel
theorem dX7_rank_25 : decode cX7_rank 25 = .ok (.bipush 100, 2) := by decide +kernel
theorem dX7_rank_27 : decode cX7_rank 27 = .ok (.if_icmp .ge 11, 3) := by decide +kernel
theorem dX7_rank_30 : decode cX7_rank 30 = .ok (.iload_n 1, 1) := by decide +kernel
theorem dX7_rank_31 : decode cX7_rank 31 = .ok (.sipush 10000, 3) := by decide +kernel
theorem dX7_rank_34 : decode cX7_rank 34 = .ok (.imul, 1) := by decide +kernel
theorem dX7_rank_35 : decode cX7_rank 35 = .ok (.goto 7, 3) := by decide +kernel
theorem dX7_rank_38 : decode cX7_rank 38 = .ok (.iload_n 1, 1) := by decide +kernel
theorem dX7_rank_39 : decode cX7_rank 39 = .ok (.bipush 100, 2) := by decide +kernel
theorem dX7_rank_41 : decode cX7_rank 41 = .ok (.imul, 1) := by decide +kernel
theorem dX7_rank_42 : decode cX7_rank 42 = .ok (.istore_n 1, 1) := by decide +kernel
theorem dX7_rank_43 : decode cX7_rank 43 = .ok (.goto (-38), 3) := by decide +kernel
theorem dX7_rank_46 : decode cX7_rank 46 = .ok (.iload_n 0, 1) := by decide +kernel
theorem dX7_rank_47 : decode cX7_rank 47 = .ok (.iload_n 0, 1) := by decide +kernel
theorem dX7_rank_48 : decode cX7_rank 48 = .ok (.ldc 103, 2) := by decide +kernel
theorem dX7_rank_50 : decode cX7_rank 50 = .ok (.irem, 1) := by decide +kernel
theorem dX7_rank_51 : decode cX7_rank 51 = .ok (.isub, 1) := by decide +kernel
theorem dX7_rank_52 : decode cX7_rank 52 = .ok (.iload_n 1, 1) := by decide +kernel
theorem dX7_rank_53 : decode cX7_rank 53 = .ok (.iadd, 1) := by decide +kernel
theorem dX7_rank_54 : decode cX7_rank 54 = .ok (.ireturn, 1) := by decide +kernel
theorem dX7_copies_0 : decode cX7_copies 0 = .ok (.aload_n 0, 1) := by decide +kernel
theorem dX7_copies_1 : decode cX7_copies 1 = .ok (.getfield 42, 3) := by decide +kernel
theorem dX7_copies_4 : decode cX7_copies 4 = .ok (.iload_n 1, 1) := by decide +kernel
theorem dX7_copies_5 : decode cX7_copies 5 = .ok (.aload_n 0, 1) := by decide +kernel
theorem dX7_copies_6 : decode cX7_copies 6 = .ok (.getfield 23, 3) := by decide +kernel
theorem dX7_copies_9 : decode cX7_copies 9 = .ok (.iload_n 1, 1) := by decide +kernel
theorem dX7_copies_10 : decode cX7_copies 10 = .ok (.baload, 1) := by decide +kernel
theorem dX7_copies_11 : decode cX7_copies 11 = .ok (.bastore, 1) := by decide +kernel
theorem dX7_copies_12 : decode cX7_copies 12 = .ok (.aload_n 0, 1) := by decide +kernel
theorem dX7_copies_13 : decode cX7_copies 13 = .ok (.getfield 48, 3) := by decide +kernel
theorem dX7_copies_16 : decode cX7_copies 16 = .ok (.iload_n 1, 1) := by decide +kernel
theorem dX7_copies_17 : decode cX7_copies 17 = .ok (.aload_n 0, 1) := by decide +kernel
theorem dX7_copies_18 : decode cX7_copies 18 = .ok (.getfield 30, 3) := by decide +kernel
theorem dX7_copies_21 : decode cX7_copies 21 = .ok (.iload_n 1, 1) := by decide +kernel
theorem dX7_copies_22 : decode cX7_copies 22 = .ok (.iaload, 1) := by decide +kernel
theorem dX7_copies_23 : decode cX7_copies 23 = .ok (.iastore, 1) := by decide +kernel
theorem dX7_copies_24 : decode cX7_copies 24 = .ok (.iconst 0, 1) := by decide +kernel
theorem dX7_copies_25 : decode cX7_copies 25 = .ok (.istore_n 2, 1) := by decide +kernel
theorem dX7_copies_26 : decode cX7_copies 26 = .ok (.iload_n 2, 1) := by decide +kernel
theorem dX7_copies_27 : decode cX7_copies 27 = .ok (.iconst 2, 1) := by decide +kernel
theorem dX7_copies_28 : decode cX7_copies 28 = .ok (.if_icmp .ge 29, 3) := by decide +kernel
theorem dX7_copies_31 : decode cX7_copies 31 = .ok (.aload_n 0, 1) := by decide +kernel
theorem dX7_copies_32 : decode cX7_copies 32 = .ok (.getfield 45, 3) := by decide +kernel
theorem dX7_copies_35 : decode cX7_copies 35 = .ok (.iconst 2, 1) := by decide +kernel
theorem dX7_copies_36 : decode cX7_copies 36 = .ok (.iload_n 1, 1) := by decide +kernel
theorem dX7_copies_37 : decode cX7_copies 37 = .ok (.imul, 1) := by decide +kernel
theorem dX7_copies_38 : decode cX7_copies 38 = .ok (.iload_n 2, 1) := by decide +kernel
theorem dX7_copies_39 : decode cX7_copies 39 = .ok (.iadd, 1) := by decide +kernel
theorem dX7_copies_40 : decode cX7_copies 40 = .ok (.aload_n 0, 1) := by decide +kernel
theorem dX7_copies_41 : decode cX7_copies 41 = .ok (.getfield 27, 3) := by decide +kernel
theorem dX7_copies_44 : decode cX7_copies 44 = .ok (.iconst 2, 1) := by decide +kernel
theorem dX7_copies_45 : decode cX7_copies 45 = .ok (.iload_n 1, 1) := by decide +kernel
theorem dX7_copies_46 : decode cX7_copies 46 = .ok (.imul, 1) := by decide +kernel
theorem dX7_copies_47 : decode cX7_copies 47 = .ok (.iload_n 2, 1) := by decide +kernel
theorem dX7_copies_48 : decode cX7_copies 48 = .ok (.iadd, 1) := by decide +kernel
theorem dX7_copies_49 : decode cX7_copies 49 = .ok (.iaload, 1) := by decide +kernel
theorem dX7_copies_50 : decode cX7_copies 50 = .ok (.iastore, 1) := by decide +kernel
theorem dX7_copies_51 : decode cX7_copies 51 = .ok (.iinc 2 1, 3) := by decide +kernel
theorem dX7_copies_54 : decode cX7_copies 54 = .ok (.goto (-28), 3) := by decide +kernel
theorem dX7_copies_57 : decode cX7_copies 57 = .ok (.bipush 40, 2) := by decide +kernel
theorem dX7_copies_59 : decode cX7_copies 59 = .ok (.iload_n 1, 1) := by decide +kernel
theorem dX7_copies_60 : decode cX7_copies 60 = .ok (.imul, 1) := by decide +kernel
theorem dX7_copies_61 : decode cX7_copies 61 = .ok (.istore_n 2, 1) := by decide +kernel
theorem dX7_copies_62 : decode cX7_copies 62 = .ok (.iload_n 2, 1) := by decide +kernel
theorem dX7_copies_63 : decode cX7_copies 63 = .ok (.bipush 40, 2) := by decide +kernel
theorem dX7_copies_65 : decode cX7_copies 65 = .ok (.iload_n 1, 1) := by decide +kernel
theorem dX7_copies_66 : decode cX7_copies 66 = .ok (.imul, 1) := by decide +kernel
theorem dX7_copies_67 : decode cX7_copies 67 = .ok (.bipush 40, 2) := by decide +kernel
theorem dX7_copies_69 : decode cX7_copies 69 = .ok (.iadd, 1) := by decide +kernel
theorem dX7_copies_70 : decode cX7_copies 70 = .ok (.if_icmp .ge 69, 3) := by decide +kernel
theorem dX7_copies_73 : decode cX7_copies 73 = .ok (.aload_n 0, 1) := by decide +kernel
theorem dX7_copies_74 : decode cX7_copies 74 = .ok (.getfield 51, 3) := by decide +kernel
theorem dX7_copies_77 : decode cX7_copies 77 = .ok (.iload_n 2, 1) := by decide +kernel
theorem dX7_copies_78 : decode cX7_copies 78 = .ok (.aload_n 0, 1) := by decide +kernel
theorem dX7_copies_79 : decode cX7_copies 79 = .ok (.getfield 33, 3) := by decide +kernel
theorem dX7_copies_82 : decode cX7_copies 82 = .ok (.iload_n 2, 1) := by decide +kernel
theorem dX7_copies_83 : decode cX7_copies 83 = .ok (.iaload, 1) := by decide +kernel
theorem dX7_copies_84 : decode cX7_copies 84 = .ok (.iastore, 1) := by decide +kernel
theorem dX7_copies_85 : decode cX7_copies 85 = .ok (.aload_n 0, 1) := by decide +kernel
theorem dX7_copies_86 : decode cX7_copies 86 = .ok (.getfield 54, 3) := by decide +kernel
theorem dX7_copies_89 : decode cX7_copies 89 = .ok (.iload_n 2, 1) := by decide +kernel
theorem dX7_copies_90 : decode cX7_copies 90 = .ok (.aload_n 0, 1) := by decide +kernel
theorem dX7_copies_91 : decode cX7_copies 91 = .ok (.getfield 36, 3) := by decide +kernel
theorem dX7_copies_94 : decode cX7_copies 94 = .ok (.iload_n 2, 1) := by decide +kernel
theorem dX7_copies_95 : decode cX7_copies 95 = .ok (.iaload, 1) := by decide +kernel
theorem dX7_copies_96 : decode cX7_copies 96 = .ok (.iastore, 1) := by decide +kernel
theorem dX7_copies_97 : decode cX7_copies 97 = .ok (.aload_n 0, 1) := by decide +kernel
theorem dX7_copies_98 : decode cX7_copies 98 = .ok (.getfield 57, 3) := by decide +kernel
theorem dX7_copies_101 : decode cX7_copies 101 = .ok (.iconst 2, 1) := by decide +kernel
theorem dX7_copies_102 : decode cX7_copies 102 = .ok (.iload_n 2, 1) := by decide +kernel
theorem dX7_copies_103 : decode cX7_copies 103 = .ok (.imul, 1) := by decide +kernel
theorem dX7_copies_104 : decode cX7_copies 104 = .ok (.aload_n 0, 1) := by decide +kernel
theorem dX7_copies_105 : decode cX7_copies 105 = .ok (.getfield 39, 3) := by decide +kernel
theorem dX7_copies_108 : decode cX7_copies 108 = .ok (.iconst 2, 1) := by decide +kernel
theorem dX7_copies_109 : decode cX7_copies 109 = .ok (.iload_n 2, 1) := by decide +kernel
theorem dX7_copies_110 : decode cX7_copies 110 = .ok (.imul, 1) := by decide +kernel
theorem dX7_copies_111 : decode cX7_copies 111 = .ok (.iaload, 1) := by decide +kernel
theorem dX7_copies_112 : decode cX7_copies 112 = .ok (.iastore, 1) := by decide +kernel
theorem dX7_copies_113 : decode cX7_copies 113 = .ok (.aload_n 0, 1) := by decide +kernel
theorem dX7_copies_114 : decode cX7_copies 114 = .ok (.getfield 57, 3) := by decide +kernel
theorem dX7_copies_117 : decode cX7_copies 117 = .ok (.iconst 2, 1) := by decide +kernel
theorem dX7_copies_118 : decode cX7_copies 118 = .ok (.iload_n 2, 1) := by decide +kernel
theorem dX7_copies_119 : decode cX7_copies 119 = .ok (.imul, 1) := by decide +kernel
theorem dX7_copies_120 : decode cX7_copies 120 = .ok (.iconst 1, 1) := by decide +kernel
theorem dX7_copies_121 : decode cX7_copies 121 = .ok (.iadd, 1) := by decide +kernel
theorem dX7_copies_122 : decode cX7_copies 122 = .ok (.aload_n 0, 1) := by decide +kernel
theorem dX7_copies_123 : decode cX7_copies 123 = .ok (.getfield 39, 3) := by decide +kernel
theorem dX7_copies_126 : decode cX7_copies 126 = .ok (.iconst 2, 1) := by decide +kernel
theorem dX7_copies_127 : decode cX7_copies 127 = .ok (.iload_n 2, 1) := by decide +kernel
theorem dX7_copies_128 : decode cX7_copies 128 = .ok (.imul, 1) := by decide +kernel
theorem dX7_copies_129 : decode cX7_copies 129 = .ok (.iconst 1, 1) := by decide +kernel
theorem dX7_copies_130 : decode cX7_copies 130 = .ok (.iadd, 1) := by decide +kernel
theorem dX7_copies_131 : decode cX7_copies 131 = .ok (.iaload, 1) := by decide +kernel
theorem dX7_copies_132 : decode cX7_copies 132 = .ok (.iastore, 1) := by decide +kernel
theorem dX7_copies_133 : decode cX7_copies 133 = .ok (.iinc 2 1, 3) := by decide +kernel
theorem dX7_copies_136 : decode cX7_copies 136 = .ok (.goto (-74), 3) := by decide +kernel
theorem dX7_copies_139 : decode cX7_copies 139 = .ok (.return_, 1) := by decide +kernel
theorem dX7_restores_0 : decode cX7_restores 0 = .ok (.aload_n 0, 1) := by decide +kernel
theorem dX7_restores_1 : decode cX7_restores 1 = .ok (.getfield 23, 3) := by decide +kernel
theorem dX7_restores_4 : decode cX7_restores 4 = .ok (.iload_n 1, 1) := by decide +kernel
theorem dX7_restores_5 : decode cX7_restores 5 = .ok (.aload_n 0, 1) := by decide +kernel
theorem dX7_restores_6 : decode cX7_restores 6 = .ok (.getfield 42, 3) := by decide +kernel
theorem dX7_restores_9 : decode cX7_restores 9 = .ok (.iload_n 1, 1) := by decide +kernel
theorem dX7_restores_10 : decode cX7_restores 10 = .ok (.baload, 1) := by decide +kernel
theorem dX7_restores_11 : decode cX7_restores 11 = .ok (.bastore, 1) := by decide +kernel
theorem dX7_restores_12 : decode cX7_restores 12 = .ok (.aload_n 0, 1) := by decide +kernel
theorem dX7_restores_13 : decode cX7_restores 13 = .ok (.getfield 30, 3) := by decide +kernel
theorem dX7_restores_16 : decode cX7_restores 16 = .ok (.iload_n 1, 1) := by decide +kernel
theorem dX7_restores_17 : decode cX7_restores 17 = .ok (.aload_n 0, 1) := by decide +kernel
theorem dX7_restores_18 : decode cX7_restores 18 = .ok (.getfield 48, 3) := by decide +kernel
theorem dX7_restores_21 : decode cX7_restores 21 = .ok (.iload_n 1, 1) := by decide +kernel
theorem dX7_restores_22 : decode cX7_restores 22 = .ok (.iaload, 1) := by decide +kernel
theorem dX7_restores_23 : decode cX7_restores 23 = .ok (.iastore, 1) := by decide +kernel
theorem dX7_restores_24 : decode cX7_restores 24 = .ok (.iconst 0, 1) := by decide +kernel
theorem dX7_restores_25 : decode cX7_restores 25 = .ok (.istore_n 2, 1) := by decide +kernel
theorem dX7_restores_26 : decode cX7_restores 26 = .ok (.iload_n 2, 1) := by decide +kernel
theorem dX7_restores_27 : decode cX7_restores 27 = .ok (.iconst 2, 1) := by decide +kernel
theorem dX7_restores_28 : decode cX7_restores 28 = .ok (.if_icmp .ge 29, 3) := by decide +kernel
theorem dX7_restores_31 : decode cX7_restores 31 = .ok (.aload_n 0, 1) := by decide +kernel
theorem dX7_restores_32 : decode cX7_restores 32 = .ok (.getfield 27, 3) := by decide +kernel
theorem dX7_restores_35 : decode cX7_restores 35 = .ok (.iconst 2, 1) := by decide +kernel
theorem dX7_restores_36 : decode cX7_restores 36 = .ok (.iload_n 1, 1) := by decide +kernel
theorem dX7_restores_37 : decode cX7_restores 37 = .ok (.imul, 1) := by decide +kernel
theorem dX7_restores_38 : decode cX7_restores 38 = .ok (.iload_n 2, 1) := by decide +kernel
theorem dX7_restores_39 : decode cX7_restores 39 = .ok (.iadd, 1) := by decide +kernel
theorem dX7_restores_40 : decode cX7_restores 40 = .ok (.aload_n 0, 1) := by decide +kernel
theorem dX7_restores_41 : decode cX7_restores 41 = .ok (.getfield 45, 3) := by decide +kernel
theorem dX7_restores_44 : decode cX7_restores 44 = .ok (.iconst 2, 1) := by decide +kernel
theorem dX7_restores_45 : decode cX7_restores 45 = .ok (.iload_n 1, 1) := by decide +kernel
theorem dX7_restores_46 : decode cX7_restores 46 = .ok (.imul, 1) := by decide +kernel
theorem dX7_restores_47 : decode cX7_restores 47 = .ok (.iload_n 2, 1) := by decide +kernel
theorem dX7_restores_48 : decode cX7_restores 48 = .ok (.iadd, 1) := by decide +kernel
theorem dX7_restores_49 : decode cX7_restores 49 = .ok (.iaload, 1) := by decide +kernel
theorem dX7_restores_50 : decode cX7_restores 50 = .ok (.iastore, 1) := by decide +kernel
theorem dX7_restores_51 : decode cX7_restores 51 = .ok (.iinc 2 1, 3) := by decide +kernel
theorem dX7_restores_54 : decode cX7_restores 54 = .ok (.goto (-28), 3) := by decide +kernel
theorem dX7_restores_57 : decode cX7_restores 57 = .ok (.bipush 40, 2) := by decide +kernel
theorem dX7_restores_59 : decode cX7_restores 59 = .ok (.iload_n 1, 1) := by decide +kernel
theorem dX7_restores_60 : decode cX7_restores 60 = .ok (.imul, 1) := by decide +kernel
theorem dX7_restores_61 : decode cX7_restores 61 = .ok (.istore_n 2, 1) := by decide +kernel
theorem dX7_restores_62 : decode cX7_restores 62 = .ok (.iload_n 2, 1) := by decide +kernel
theorem dX7_restores_63 : decode cX7_restores 63 = .ok (.bipush 40, 2) := by decide +kernel
theorem dX7_restores_65 : decode cX7_restores 65 = .ok (.iload_n 1, 1) := by decide +kernel
theorem dX7_restores_66 : decode cX7_restores 66 = .ok (.imul, 1) := by decide +kernel
theorem dX7_restores_67 : decode cX7_restores 67 = .ok (.bipush 40, 2) := by decide +kernel
theorem dX7_restores_69 : decode cX7_restores 69 = .ok (.iadd, 1) := by decide +kernel
theorem dX7_restores_70 : decode cX7_restores 70 = .ok (.if_icmp .ge 69, 3) := by decide +kernel
theorem dX7_restores_73 : decode cX7_restores 73 = .ok (.aload_n 0, 1) := by decide +kernel
theorem dX7_restores_74 : decode cX7_restores 74 = .ok (.getfield 33, 3) := by decide +kernel
theorem dX7_restores_77 : decode cX7_restores 77 = .ok (.iload_n 2, 1) := by decide +kernel
theorem dX7_restores_78 : decode cX7_restores 78 = .ok (.aload_n 0, 1) := by decide +kernel
theorem dX7_restores_79 : decode cX7_restores 79 = .ok (.getfield 51, 3) := by decide +kernel
theorem dX7_restores_82 : decode cX7_restores 82 = .ok (.iload_n 2, 1) := by decide +kernel
theorem dX7_restores_83 : decode cX7_restores 83 = .ok (.iaload, 1) := by decide +kernel
theorem dX7_restores_84 : decode cX7_restores 84 = .ok (.iastore, 1) := by decide +kernel
theorem dX7_restores_85 : decode cX7_restores 85 = .ok (.aload_n 0, 1) := by decide +kernel
theorem dX7_restores_86 : decode cX7_restores 86 = .ok (.getfield 36, 3) := by decide +kernel
theorem dX7_restores_89 : decode cX7_restores 89 = .ok (.iload_n 2, 1) := by decide +kernel
theorem dX7_restores_90 : decode cX7_restores 90 = .ok (.aload_n 0, 1) := by decide +kernel
theorem dX7_restores_91 : decode cX7_restores 91 = .ok (.getfield 54, 3) := by decide +kernel
theorem dX7_restores_94 : decode cX7_restores 94 = .ok (.iload_n 2, 1) := by decide +kernel
theorem dX7_restores_95 : decode cX7_restores 95 = .ok (.iaload, 1) := by decide +kernel
theorem dX7_restores_96 : decode cX7_restores 96 = .ok (.iastore, 1) := by decide +kernel
theorem dX7_restores_97 : decode cX7_restores 97 = .ok (.aload_n 0, 1) := by decide +kernel
theorem dX7_restores_98 : decode cX7_restores 98 = .ok (.getfield 39, 3) := by decide +kernel
theorem dX7_restores_101 : decode cX7_restores 101 = .ok (.iconst 2, 1) := by decide +kernel
theorem dX7_restores_102 : decode cX7_restores 102 = .ok (.iload_n 2, 1) := by decide +kernel
theorem dX7_restores_103 : decode cX7_restores 103 = .ok (.imul, 1) := by decide +kernel
theorem dX7_restores_104 : decode cX7_restores 104 = .ok (.aload_n 0, 1) := by decide +kernel
theorem dX7_restores_105 : decode cX7_restores 105 = .ok (.getfield 57, 3) := by decide +kernel
theorem dX7_restores_108 : decode cX7_restores 108 = .ok (.iconst 2, 1) := by decide +kernel
theorem dX7_restores_109 : decode cX7_restores 109 = .ok (.iload_n 2, 1) := by decide +kernel
theorem dX7_restores_110 : decode cX7_restores 110 = .ok (.imul, 1) := by decide +kernel
theorem dX7_restores_111 : decode cX7_restores 111 = .ok (.iaload, 1) := by decide +kernel
theorem dX7_restores_112 : decode cX7_restores 112 = .ok (.iastore, 1) := by decide +kernel
theorem dX7_restores_113 : decode cX7_restores 113 = .ok (.aload_n 0, 1) := by decide +kernel
theorem dX7_restores_114 : decode cX7_restores 114 = .ok (.getfield 39, 3) := by decide +kernel
theorem dX7_restores_117 : decode cX7_restores 117 = .ok (.iconst 2, 1) := by decide +kernel
theorem dX7_restores_118 : decode cX7_restores 118 = .ok (.iload_n 2, 1) := by decide +kernel
theorem dX7_restores_119 : decode cX7_restores 119 = .ok (.imul, 1) := by decide +kernel
theorem dX7_restores_120 : decode cX7_restores 120 = .ok (.iconst 1, 1) := by decide +kernel
theorem dX7_restores_121 : decode cX7_restores 121 = .ok (.iadd, 1) := by decide +kernel
theorem dX7_restores_122 : decode cX7_restores 122 = .ok (.aload_n 0, 1) := by decide +kernel
theorem dX7_restores_123 : decode cX7_restores 123 = .ok (.getfield 57, 3) := by decide +kernel
theorem dX7_restores_126 : decode cX7_restores 126 = .ok (.iconst 2, 1) := by decide +kernel
theorem dX7_restores_127 : decode cX7_restores 127 = .ok (.iload_n 2, 1) := by decide +kernel
theorem dX7_restores_128 : decode cX7_restores 128 = .ok (.imul, 1) := by decide +kernel
theorem dX7_restores_129 : decode cX7_restores 129 = .ok (.iconst 1, 1) := by decide +kernel
theorem dX7_restores_130 : decode cX7_restores 130 = .ok (.iadd, 1) := by decide +kernel
theorem dX7_restores_131 : decode cX7_restores 131 = .ok (.iaload, 1) := by decide +kernel
theorem dX7_restores_132 : decode cX7_restores 132 = .ok (.iastore, 1) := by decide +kernel
theorem dX7_restores_133 : decode cX7_restores 133 = .ok (.iinc 2 1, 3) := by decide +kernel
theorem dX7_restores_136 : decode cX7_restores 136 = .ok (.goto (-74), 3) := by decide +kernel
theorem dX7_restores_139 : decode cX7_restores 139 = .ok (.return_, 1) := by decide +kernel
set_option maxRecDepth 20000 in
theorem ggX7_runs_X7_copies : GoodIn wsX7_runs wsX7_copies := goodIn_r _ [8, 9, 10, 11, 12, 13, 14, 15, 16, 17, 18, 19, 20, 21, 22, 23, 24, 25, 26, 27, 28, 29, 30, 31, 32, 33, 34, 35, 36, 37, 38, 39, 40, 41, 42, 43, 44, 45, 46, 47, 48, 49, 50, 51, 52] (by decide +kernel) (by decide +kernel)
set_option maxRecDepth 20000 in
theorem gX7_runs_X7_copies : GoodIn wsX7_runs (wsV RX7 106 RX7 yX7_copies wsX7_copies) := goodIn_app (goodIn_of _ (by decide +kernel)) ggX7_runs_X7_copies
theorem dX7_runs_0 : decode cX7_runs 0 = .ok (.aload_n 0, 1) := by decide +kernel
theorem dX7_runs_1 : decode cX7_runs 1 = .ok (.getfield 69, 3) := by decide +kernel
theorem dX7_runs_4 : decode cX7_runs 4 = .ok (.iload_n 1, 1) := by decide +kernel
theorem dX7_runs_5 : decode cX7_runs 5 = .ok (.iconst 1, 1) := by decide +kernel
theorem dX7_runs_6 : decode cX7_runs 6 = .ok (.iastore, 1) := by decide +kernel
theorem dX7_runs_7 : decode cX7_runs 7 = .ok (.iconst 0, 1) := by decide +kernel
theorem dX7_runs_8 : decode cX7_runs 8 = .ok (.istore_n 2, 1) := by decide +kernel
theorem dX7_runs_9 : decode cX7_runs 9 = .ok (.iload_n 2, 1) := by decide +kernel
theorem dX7_runs_10 : decode cX7_runs 10 = .ok (.iconst 3, 1) := by decide +kernel
theorem dX7_runs_11 : decode cX7_runs 11 = .ok (.if_icmp .ge 37, 3) := by decide +kernel
theorem dX7_runs_14 : decode cX7_runs 14 = .ok (.aload_n 0, 1) := by decide +kernel
theorem dX7_runs_15 : decode cX7_runs 15 = .ok (.getfield 66, 3) := by decide +kernel
theorem dX7_runs_18 : decode cX7_runs 18 = .ok (.iload_n 1, 1) := by decide +kernel
theorem dX7_runs_19 : decode cX7_runs 19 = .ok (.baload, 1) := by decide +kernel
theorem dX7_runs_20 : decode cX7_runs 20 = .ok (.ifCond .eq 28, 3) := by decide +kernel
theorem dX7_runs_23 : decode cX7_runs 23 = .ok (.aload_n 0, 1) := by decide +kernel
theorem dX7_runs_24 : decode cX7_runs 24 = .ok (.getfield 63, 3) := by decide +kernel
theorem dX7_runs_27 : decode cX7_runs 27 = .ok (.iload_n 1, 1) := by decide +kernel
theorem dX7_runs_28 : decode cX7_runs 28 = .ok (.iaload, 1) := by decide +kernel
theorem dX7_runs_29 : decode cX7_runs 29 = .ok (.iload_n 2, 1) := by decide +kernel
theorem dX7_runs_30 : decode cX7_runs 30 = .ok (.ishr, 1) := by decide +kernel
theorem dX7_runs_31 : decode cX7_runs 31 = .ok (.iconst 1, 1) := by decide +kernel
theorem dX7_runs_32 : decode cX7_runs 32 = .ok (.iand, 1) := by decide +kernel
theorem dX7_runs_33 : decode cX7_runs 33 = .ok (.iconst 1, 1) := by decide +kernel
theorem dX7_runs_34 : decode cX7_runs 34 = .ok (.if_icmp .ne 8, 3) := by decide +kernel
theorem dX7_runs_37 : decode cX7_runs 37 = .ok (.aload_n 0, 1) := by decide +kernel
theorem dX7_runs_38 : decode cX7_runs 38 = .ok (.iload_n 2, 1) := by decide +kernel
theorem dX7_runs_39 : decode cX7_runs 39 = .ok (.invokevirtual 106, 3) := by decide +kernel
theorem dX7_runs_42 : decode cX7_runs 42 = .ok (.iinc 2 1, 3) := by decide +kernel
theorem dX7_runs_45 : decode cX7_runs 45 = .ok (.goto (-36), 3) := by decide +kernel
theorem dX7_runs_48 : decode cX7_runs 48 = .ok (.return_, 1) := by decide +kernel
theorem dX7_isAlive_0 : decode cX7_isAlive 0 = .ok (.aload_n 0, 1) := by decide +kernel
theorem dX7_isAlive_1 : decode cX7_isAlive 1 = .ok (.getfield 69, 3) := by decide +kernel
theorem dX7_isAlive_4 : decode cX7_isAlive 4 = .ok (.iload_n 1, 1) := by decide +kernel
theorem dX7_isAlive_5 : decode cX7_isAlive 5 = .ok (.iaload, 1) := by decide +kernel
theorem dX7_isAlive_6 : decode cX7_isAlive 6 = .ok (.ifCond .eq 13, 3) := by decide +kernel
theorem dX7_isAlive_9 : decode cX7_isAlive 9 = .ok (.aload_n 0, 1) := by decide +kernel
theorem dX7_isAlive_10 : decode cX7_isAlive 10 = .ok (.getfield 69, 3) := by decide +kernel
theorem dX7_isAlive_13 : decode cX7_isAlive 13 = .ok (.iload_n 1, 1) := by decide +kernel
theorem dX7_isAlive_14 : decode cX7_isAlive 14 = .ok (.iaload, 1) := by decide +kernel
theorem dX7_isAlive_15 : decode cX7_isAlive 15 = .ok (.iconst 1, 1) := by decide +kernel
theorem dX7_isAlive_16 : decode cX7_isAlive 16 = .ok (.if_icmp .ne 7, 3) := by decide +kernel
theorem dX7_isAlive_19 : decode cX7_isAlive 19 = .ok (.iconst 1, 1) := by decide +kernel
theorem dX7_isAlive_20 : decode cX7_isAlive 20 = .ok (.goto 4, 3) := by decide +kernel
theorem dX7_isAlive_23 : decode cX7_isAlive 23 = .ok (.iconst 0, 1) := by decide +kernel
theorem dX7_isAlive_24 : decode cX7_isAlive 24 = .ok (.ireturn, 1) := by decide +kernel
set_option maxRecDepth 20000 in
theorem ggX7_mustWait_X7_isAlive : GoodIn wsX7_mustWait wsX7_isAlive := goodIn_r _ [7, 8, 9, 10, 11, 12, 13, 14, 15, 16, 17, 18, 19, 20, 21, 22, 23, 24, 25, 26, 27, 28, 29, 30, 31, 32, 33, 34, 35, 36, 37, 38, 39, 40] (by decide +kernel) (by decide +kernel)
set_option maxRecDepth 20000 in
theorem gX7_mustWait_X7_isAlive : GoodIn wsX7_mustWait (wsV RX7 110 RX7 yX7_isAlive wsX7_isAlive) := goodIn_app (goodIn_of _ (by decide +kernel)) ggX7_mustWait_X7_isAlive
theorem dX7_mustWait_0 : decode cX7_mustWait 0 = .ok (.iconst 0, 1) := by decide +kernel
theorem dX7_mustWait_1 : decode cX7_mustWait 1 = .ok (.istore_n 2, 1) := by decide +kernel
theorem dX7_mustWait_2 : decode cX7_mustWait 2 = .ok (.iconst 0, 1) := by decide +kernel
theorem dX7_mustWait_3 : decode cX7_mustWait 3 = .ok (.istore_n 3, 1) := by decide +kernel
theorem dX7_mustWait_4 : decode cX7_mustWait 4 = .ok (.iload_n 3, 1) := by decide +kernel
theorem dX7_mustWait_5 : decode cX7_mustWait 5 = .ok (.iload_n 1, 1) := by decide +kernel
theorem dX7_mustWait_6 : decode cX7_mustWait 6 = .ok (.if_icmp .ge 61, 3) := by decide +kernel
theorem dX7_mustWait_9 : decode cX7_mustWait 9 = .ok (.iload_n 2, 1) := by decide +kernel
theorem dX7_mustWait_10 : decode cX7_mustWait 10 = .ok (.ifCond .ne 45, 3) := by decide +kernel
theorem dX7_mustWait_13 : decode cX7_mustWait 13 = .ok (.aload_n 0, 1) := by decide +kernel
theorem dX7_mustWait_14 : decode cX7_mustWait 14 = .ok (.iload_n 3, 1) := by decide +kernel
theorem dX7_mustWait_15 : decode cX7_mustWait 15 = .ok (.invokevirtual 110, 3) := by decide +kernel
theorem dX7_mustWait_18 : decode cX7_mustWait 18 = .ok (.ifCond .eq 41, 3) := by decide +kernel
theorem dX7_mustWait_21 : decode cX7_mustWait 21 = .ok (.aload_n 0, 1) := by decide +kernel
theorem dX7_mustWait_22 : decode cX7_mustWait 22 = .ok (.getfield 63, 3) := by decide +kernel
theorem dX7_mustWait_25 : decode cX7_mustWait 25 = .ok (.iload_n 3, 1) := by decide +kernel
theorem dX7_mustWait_26 : decode cX7_mustWait 26 = .ok (.iaload, 1) := by decide +kernel
theorem dX7_mustWait_27 : decode cX7_mustWait 27 = .ok (.aload_n 0, 1) := by decide +kernel
theorem dX7_mustWait_28 : decode cX7_mustWait 28 = .ok (.getfield 63, 3) := by decide +kernel
theorem dX7_mustWait_31 : decode cX7_mustWait 31 = .ok (.iload_n 1, 1) := by decide +kernel
theorem dX7_mustWait_32 : decode cX7_mustWait 32 = .ok (.iaload, 1) := by decide +kernel
theorem dX7_mustWait_33 : decode cX7_mustWait 33 = .ok (.iand, 1) := by decide +kernel
theorem dX7_mustWait_34 : decode cX7_mustWait 34 = .ok (.ifCond .eq 25, 3) := by decide +kernel
theorem dX7_mustWait_37 : decode cX7_mustWait 37 = .ok (.aload_n 0, 1) := by decide +kernel
theorem dX7_mustWait_38 : decode cX7_mustWait 38 = .ok (.getfield 66, 3) := by decide +kernel
theorem dX7_mustWait_41 : decode cX7_mustWait 41 = .ok (.iload_n 3, 1) := by decide +kernel
theorem dX7_mustWait_42 : decode cX7_mustWait 42 = .ok (.baload, 1) := by decide +kernel
theorem dX7_mustWait_43 : decode cX7_mustWait 43 = .ok (.ifCond .ne 12, 3) := by decide +kernel
theorem dX7_mustWait_46 : decode cX7_mustWait 46 = .ok (.aload_n 0, 1) := by decide +kernel
theorem dX7_mustWait_47 : decode cX7_mustWait 47 = .ok (.getfield 66, 3) := by decide +kernel
theorem dX7_mustWait_50 : decode cX7_mustWait 50 = .ok (.iload_n 1, 1) := by decide +kernel
theorem dX7_mustWait_51 : decode cX7_mustWait 51 = .ok (.baload, 1) := by decide +kernel
theorem dX7_mustWait_52 : decode cX7_mustWait 52 = .ok (.ifCond .eq 7, 3) := by decide +kernel
theorem dX7_mustWait_55 : decode cX7_mustWait 55 = .ok (.iconst 1, 1) := by decide +kernel
theorem dX7_mustWait_56 : decode cX7_mustWait 56 = .ok (.goto 4, 3) := by decide +kernel
theorem dX7_mustWait_59 : decode cX7_mustWait 59 = .ok (.iconst 0, 1) := by decide +kernel
theorem dX7_mustWait_60 : decode cX7_mustWait 60 = .ok (.istore_n 2, 1) := by decide +kernel
theorem dX7_mustWait_61 : decode cX7_mustWait 61 = .ok (.iinc 3 1, 3) := by decide +kernel
theorem dX7_mustWait_64 : decode cX7_mustWait 64 = .ok (.goto (-60), 3) := by decide +kernel
theorem dX7_mustWait_67 : decode cX7_mustWait 67 = .ok (.iload_n 2, 1) := by decide +kernel
theorem dX7_mustWait_68 : decode cX7_mustWait 68 = .ok (.ireturn, 1) := by decide +kernel
set_option maxRecDepth 20000 in
theorem ggX7_goesOn_X7_mustWait : GoodIn wsX7_goesOn wsX7_mustWait := goodIn_r _ [7, 8, 9, 10, 11, 12, 6, 13, 2, 34, 35, 36, 37, 38, 39, 40, 41, 42, 43, 44, 45, 46, 47, 48, 49, 50, 51, 52, 53, 54, 55, 56, 57, 58, 59, 60, 61, 62, 63, 64, 65] (by decide +kernel) (by decide +kernel)
set_option maxRecDepth 20000 in
theorem gX7_goesOn_X7_mustWait : GoodIn wsX7_goesOn (wsV RX7 114 RX7 yX7_mustWait wsX7_mustWait) := goodIn_app (goodIn_of _ (by decide +kernel)) ggX7_goesOn_X7_mustWait
set_option maxRecDepth 20000 in
theorem ggX7_goesOn_X7_runs : GoodIn wsX7_goesOn wsX7_runs := goodIn_r _ [17, 2, 9, 8, 18, 19, 20, 6, 21, 22, 23, 24, 25, 26, 27, 28, 29, 30, 31, 32, 33, 34, 35, 36, 37, 38, 39, 40, 41, 42, 43, 44, 45, 46, 47, 48, 49, 50, 51, 52, 53, 54, 55, 56, 57, 58, 59, 60, 61, 62, 63, 64, 65] (by decide +kernel) (by decide +kernel)
set_option maxRecDepth 20000 in
theorem gX7_goesOn_X7_runs : GoodIn wsX7_goesOn (wsV RX7 117 RX7 yX7_runs wsX7_runs) := goodIn_app (goodIn_of _ (by decide +kernel)) ggX7_goesOn_X7_runs
theorem dX7_goesOn_0 : decode cX7_goesOn 0 = .ok (.iconst 0, 1) := by decide +kernel
theorem dX7_goesOn_1 : decode cX7_goesOn 1 = .ok (.istore_n 1, 1) := by decide +kernel
theorem dX7_goesOn_2 : decode cX7_goesOn 2 = .ok (.iconst 0, 1) := by decide +kernel
theorem dX7_goesOn_3 : decode cX7_goesOn 3 = .ok (.istore_n 2, 1) := by decide +kernel
theorem dX7_goesOn_4 : decode cX7_goesOn 4 = .ok (.iload_n 2, 1) := by decide +kernel
theorem dX7_goesOn_5 : decode cX7_goesOn 5 = .ok (.aload_n 0, 1) := by decide +kernel
theorem dX7_goesOn_6 : decode cX7_goesOn 6 = .ok (.getfield 100, 3) := by decide +kernel
theorem dX7_goesOn_9 : decode cX7_goesOn 9 = .ok (.if_icmp .ge 34, 3) := by decide +kernel
theorem dX7_goesOn_12 : decode cX7_goesOn 12 = .ok (.aload_n 0, 1) := by decide +kernel
theorem dX7_goesOn_13 : decode cX7_goesOn 13 = .ok (.getfield 69, 3) := by decide +kernel
theorem dX7_goesOn_16 : decode cX7_goesOn 16 = .ok (.iload_n 2, 1) := by decide +kernel
theorem dX7_goesOn_17 : decode cX7_goesOn 17 = .ok (.iaload, 1) := by decide +kernel
theorem dX7_goesOn_18 : decode cX7_goesOn 18 = .ok (.ifCond .ne 19, 3) := by decide +kernel
theorem dX7_goesOn_21 : decode cX7_goesOn 21 = .ok (.aload_n 0, 1) := by decide +kernel
theorem dX7_goesOn_22 : decode cX7_goesOn 22 = .ok (.iload_n 2, 1) := by decide +kernel
theorem dX7_goesOn_23 : decode cX7_goesOn 23 = .ok (.invokevirtual 114, 3) := by decide +kernel
theorem dX7_goesOn_26 : decode cX7_goesOn 26 = .ok (.ifCond .ne 11, 3) := by decide +kernel
theorem dX7_goesOn_29 : decode cX7_goesOn 29 = .ok (.aload_n 0, 1) := by decide +kernel
theorem dX7_goesOn_30 : decode cX7_goesOn 30 = .ok (.iload_n 2, 1) := by decide +kernel
theorem dX7_goesOn_31 : decode cX7_goesOn 31 = .ok (.invokevirtual 117, 3) := by decide +kernel
theorem dX7_goesOn_34 : decode cX7_goesOn 34 = .ok (.iinc 1 1, 3) := by decide +kernel
theorem dX7_goesOn_37 : decode cX7_goesOn 37 = .ok (.iinc 2 1, 3) := by decide +kernel
theorem dX7_goesOn_40 : decode cX7_goesOn 40 = .ok (.goto (-36), 3) := by decide +kernel
theorem dX7_goesOn_43 : decode cX7_goesOn 43 = .ok (.iload_n 1, 1) := by decide +kernel
theorem dX7_goesOn_44 : decode cX7_goesOn 44 = .ok (.ireturn, 1) := by decide +kernel
theorem dX7_adds_0 : decode cX7_adds 0 = .ok (.aload_n 0, 1) := by decide +kernel
theorem dX7_adds_1 : decode cX7_adds 1 = .ok (.getfield 60, 3) := by decide +kernel
theorem dX7_adds_4 : decode cX7_adds 4 = .ok (.aload_n 0, 1) := by decide +kernel
theorem dX7_adds_5 : decode cX7_adds 5 = .ok (.getfield 100, 3) := by decide +kernel
theorem dX7_adds_8 : decode cX7_adds 8 = .ok (.iload_n 1, 1) := by decide +kernel
theorem dX7_adds_9 : decode cX7_adds 9 = .ok (.iastore, 1) := by decide +kernel
theorem dX7_adds_10 : decode cX7_adds 10 = .ok (.aload_n 0, 1) := by decide +kernel
theorem dX7_adds_11 : decode cX7_adds 11 = .ok (.getfield 63, 3) := by decide +kernel
theorem dX7_adds_14 : decode cX7_adds 14 = .ok (.aload_n 0, 1) := by decide +kernel
theorem dX7_adds_15 : decode cX7_adds 15 = .ok (.getfield 100, 3) := by decide +kernel
theorem dX7_adds_18 : decode cX7_adds 18 = .ok (.iload_n 2, 1) := by decide +kernel
theorem dX7_adds_19 : decode cX7_adds 19 = .ok (.iastore, 1) := by decide +kernel
theorem dX7_adds_20 : decode cX7_adds 20 = .ok (.aload_n 0, 1) := by decide +kernel
theorem dX7_adds_21 : decode cX7_adds 21 = .ok (.getfield 66, 3) := by decide +kernel
theorem dX7_adds_24 : decode cX7_adds 24 = .ok (.aload_n 0, 1) := by decide +kernel
theorem dX7_adds_25 : decode cX7_adds 25 = .ok (.getfield 100, 3) := by decide +kernel
theorem dX7_adds_28 : decode cX7_adds 28 = .ok (.iload_n 3, 1) := by decide +kernel
theorem dX7_adds_29 : decode cX7_adds 29 = .ok (.bastore, 1) := by decide +kernel
theorem dX7_adds_30 : decode cX7_adds 30 = .ok (.aload_n 0, 1) := by decide +kernel
theorem dX7_adds_31 : decode cX7_adds 31 = .ok (.getfield 69, 3) := by decide +kernel
theorem dX7_adds_34 : decode cX7_adds 34 = .ok (.aload_n 0, 1) := by decide +kernel
theorem dX7_adds_35 : decode cX7_adds 35 = .ok (.getfield 100, 3) := by decide +kernel
theorem dX7_adds_38 : decode cX7_adds 38 = .ok (.iconst 0, 1) := by decide +kernel
theorem dX7_adds_39 : decode cX7_adds 39 = .ok (.iastore, 1) := by decide +kernel
theorem dX7_adds_40 : decode cX7_adds 40 = .ok (.aload_n 0, 1) := by decide +kernel
theorem dX7_adds_41 : decode cX7_adds 41 = .ok (.dup, 1) := by decide +kernel
theorem dX7_adds_42 : decode cX7_adds 42 = .ok (.getfield 100, 3) := by decide +kernel
theorem dX7_adds_45 : decode cX7_adds 45 = .ok (.iconst 1, 1) := by decide +kernel
theorem dX7_adds_46 : decode cX7_adds 46 = .ok (.iadd, 1) := by decide +kernel
theorem dX7_adds_47 : decode cX7_adds 47 = .ok (.putfield 100, 3) := by decide +kernel
theorem dX7_adds_50 : decode cX7_adds 50 = .ok (.aload_n 0, 1) := by decide +kernel
theorem dX7_adds_51 : decode cX7_adds 51 = .ok (.getfield 100, 3) := by decide +kernel
theorem dX7_adds_54 : decode cX7_adds 54 = .ok (.iconst 1, 1) := by decide +kernel
theorem dX7_adds_55 : decode cX7_adds 55 = .ok (.isub, 1) := by decide +kernel
theorem dX7_adds_56 : decode cX7_adds 56 = .ok (.ireturn, 1) := by decide +kernel
theorem dX7_firstBlocked_0 : decode cX7_firstBlocked 0 = .ok (.iconst (-1), 1) := by decide +kernel
theorem dX7_firstBlocked_1 : decode cX7_firstBlocked 1 = .ok (.istore_n 1, 1) := by decide +kernel
theorem dX7_firstBlocked_2 : decode cX7_firstBlocked 2 = .ok (.iconst 0, 1) := by decide +kernel
theorem dX7_firstBlocked_3 : decode cX7_firstBlocked 3 = .ok (.istore_n 2, 1) := by decide +kernel
theorem dX7_firstBlocked_4 : decode cX7_firstBlocked 4 = .ok (.iload_n 2, 1) := by decide +kernel
theorem dX7_firstBlocked_5 : decode cX7_firstBlocked 5 = .ok (.iconst 4, 1) := by decide +kernel
theorem dX7_firstBlocked_6 : decode cX7_firstBlocked 6 = .ok (.if_icmp .ge 45, 3) := by decide +kernel
theorem dX7_firstBlocked_9 : decode cX7_firstBlocked 9 = .ok (.aload_n 0, 1) := by decide +kernel
theorem dX7_firstBlocked_10 : decode cX7_firstBlocked 10 = .ok (.getfield 7, 3) := by decide +kernel
theorem dX7_firstBlocked_13 : decode cX7_firstBlocked 13 = .ok (.iload_n 2, 1) := by decide +kernel
theorem dX7_firstBlocked_14 : decode cX7_firstBlocked 14 = .ok (.iaload, 1) := by decide +kernel
theorem dX7_firstBlocked_15 : decode cX7_firstBlocked 15 = .ok (.iconst 3, 1) := by decide +kernel
theorem dX7_firstBlocked_16 : decode cX7_firstBlocked 16 = .ok (.if_icmp .ne 27, 3) := by decide +kernel
theorem dX7_firstBlocked_19 : decode cX7_firstBlocked 19 = .ok (.iload_n 1, 1) := by decide +kernel
theorem dX7_firstBlocked_20 : decode cX7_firstBlocked 20 = .ok (.iconst (-1), 1) := by decide +kernel
theorem dX7_firstBlocked_21 : decode cX7_firstBlocked 21 = .ok (.if_icmp .eq 18, 3) := by decide +kernel
theorem dX7_firstBlocked_24 : decode cX7_firstBlocked 24 = .ok (.aload_n 0, 1) := by decide +kernel
theorem dX7_firstBlocked_25 : decode cX7_firstBlocked 25 = .ok (.getfield 16, 3) := by decide +kernel
theorem dX7_firstBlocked_28 : decode cX7_firstBlocked 28 = .ok (.iload_n 2, 1) := by decide +kernel
theorem dX7_firstBlocked_29 : decode cX7_firstBlocked 29 = .ok (.iaload, 1) := by decide +kernel
theorem dX7_firstBlocked_30 : decode cX7_firstBlocked 30 = .ok (.aload_n 0, 1) := by decide +kernel
theorem dX7_firstBlocked_31 : decode cX7_firstBlocked 31 = .ok (.getfield 16, 3) := by decide +kernel
theorem dX7_firstBlocked_34 : decode cX7_firstBlocked 34 = .ok (.iload_n 1, 1) := by decide +kernel
theorem dX7_firstBlocked_35 : decode cX7_firstBlocked 35 = .ok (.iaload, 1) := by decide +kernel
theorem dX7_firstBlocked_36 : decode cX7_firstBlocked 36 = .ok (.if_icmp .ge 7, 3) := by decide +kernel
theorem dX7_firstBlocked_39 : decode cX7_firstBlocked 39 = .ok (.iload_n 2, 1) := by decide +kernel
theorem dX7_firstBlocked_40 : decode cX7_firstBlocked 40 = .ok (.goto 4, 3) := by decide +kernel
theorem dX7_firstBlocked_43 : decode cX7_firstBlocked 43 = .ok (.iload_n 1, 1) := by decide +kernel
theorem dX7_firstBlocked_44 : decode cX7_firstBlocked 44 = .ok (.istore_n 1, 1) := by decide +kernel
theorem dX7_firstBlocked_45 : decode cX7_firstBlocked 45 = .ok (.iinc 2 1, 3) := by decide +kernel
theorem dX7_firstBlocked_48 : decode cX7_firstBlocked 48 = .ok (.goto (-44), 3) := by decide +kernel
theorem dX7_firstBlocked_51 : decode cX7_firstBlocked 51 = .ok (.iload_n 1, 1) := by decide +kernel
theorem dX7_firstBlocked_52 : decode cX7_firstBlocked 52 = .ok (.ireturn, 1) := by decide +kernel
set_option maxRecDepth 20000 in
theorem ggX7_isBusy_X7_isIn : GoodIn wsX7_isBusy wsX7_isIn := goodIn_r _ [5] (by decide +kernel) (by decide +kernel)
set_option maxRecDepth 20000 in
theorem gX7_isBusy_X7_isIn : GoodIn wsX7_isBusy (va_wsS RX7 96 yX7_isIn wsX7_isIn) := goodIn_app (goodIn_of _ (by decide +kernel)) ggX7_isBusy_X7_isIn
theorem dX7_isBusy_0 : decode cX7_isBusy 0 = .ok (.iconst 0, 1) := by decide +kernel
theorem dX7_isBusy_1 : decode cX7_isBusy 1 = .ok (.istore_n 2, 1) := by decide +kernel
theorem dX7_isBusy_2 : decode cX7_isBusy 2 = .ok (.iconst 0, 1) := by decide +kernel
theorem dX7_isBusy_3 : decode cX7_isBusy 3 = .ok (.istore_n 3, 1) := by decide +kernel
theorem dX7_isBusy_4 : decode cX7_isBusy 4 = .ok (.iload_n 3, 1) := by decide +kernel
theorem dX7_isBusy_5 : decode cX7_isBusy 5 = .ok (.iconst 4, 1) := by decide +kernel
theorem dX7_isBusy_6 : decode cX7_isBusy 6 = .ok (.if_icmp .ge 38, 3) := by decide +kernel
theorem dX7_isBusy_9 : decode cX7_isBusy 9 = .ok (.iload_n 2, 1) := by decide +kernel
theorem dX7_isBusy_10 : decode cX7_isBusy 10 = .ok (.ifCond .ne 22, 3) := by decide +kernel
theorem dX7_isBusy_13 : decode cX7_isBusy 13 = .ok (.iload_n 3, 1) := by decide +kernel
theorem dX7_isBusy_14 : decode cX7_isBusy 14 = .ok (.iload_n 1, 1) := by decide +kernel
theorem dX7_isBusy_15 : decode cX7_isBusy 15 = .ok (.if_icmp .eq 21, 3) := by decide +kernel
theorem dX7_isBusy_18 : decode cX7_isBusy 18 = .ok (.aload_n 0, 1) := by decide +kernel
theorem dX7_isBusy_19 : decode cX7_isBusy 19 = .ok (.getfield 7, 3) := by decide +kernel
theorem dX7_isBusy_22 : decode cX7_isBusy 22 = .ok (.iload_n 3, 1) := by decide +kernel
theorem dX7_isBusy_23 : decode cX7_isBusy 23 = .ok (.iaload, 1) := by decide +kernel
theorem dX7_isBusy_24 : decode cX7_isBusy 24 = .ok (.iconst 1, 1) := by decide +kernel
theorem dX7_isBusy_25 : decode cX7_isBusy 25 = .ok (.iconst 2, 1) := by decide +kernel
theorem dX7_isBusy_26 : decode cX7_isBusy 26 = .ok (.invokestatic 96, 3) := by decide +kernel
theorem dX7_isBusy_29 : decode cX7_isBusy 29 = .ok (.ifCond .eq 7, 3) := by decide +kernel
theorem dX7_isBusy_32 : decode cX7_isBusy 32 = .ok (.iconst 1, 1) := by decide +kernel
theorem dX7_isBusy_33 : decode cX7_isBusy 33 = .ok (.goto 4, 3) := by decide +kernel
theorem dX7_isBusy_36 : decode cX7_isBusy 36 = .ok (.iconst 0, 1) := by decide +kernel
theorem dX7_isBusy_37 : decode cX7_isBusy 37 = .ok (.istore_n 2, 1) := by decide +kernel
theorem dX7_isBusy_38 : decode cX7_isBusy 38 = .ok (.iinc 3 1, 3) := by decide +kernel
theorem dX7_isBusy_41 : decode cX7_isBusy 41 = .ok (.goto (-37), 3) := by decide +kernel
theorem dX7_isBusy_44 : decode cX7_isBusy 44 = .ok (.iload_n 2, 1) := by decide +kernel
theorem dX7_isBusy_45 : decode cX7_isBusy 45 = .ok (.ireturn, 1) := by decide +kernel
set_option maxRecDepth 20000 in
theorem ggX7_wouldBegin_X7_isIn : GoodIn wsX7_wouldBegin wsX7_isIn := goodIn_r _ [7] (by decide +kernel) (by decide +kernel)
set_option maxRecDepth 20000 in
theorem gX7_wouldBegin_X7_isIn : GoodIn wsX7_wouldBegin (va_wsS RX7 96 yX7_isIn wsX7_isIn) := goodIn_app (goodIn_of _ (by decide +kernel)) ggX7_wouldBegin_X7_isIn
set_option maxRecDepth 20000 in
theorem ggX7_wouldBegin_X7_isBusy : GoodIn wsX7_wouldBegin wsX7_isBusy := goodIn_r _ [11, 1, 4, 5, 6, 7, 12, 13, 14, 15, 16, 17, 18, 19, 20, 21, 22, 23, 24, 25, 26, 27, 28, 29, 30, 31, 32, 33, 34, 35, 36, 37, 38, 39, 40, 41, 42, 43] (by decide +kernel) (by decide +kernel)
set_option maxRecDepth 20000 in
theorem gX7_wouldBegin_X7_isBusy : GoodIn wsX7_wouldBegin (wsV RX7 123 RX7 yX7_isBusy wsX7_isBusy) := goodIn_app (goodIn_of _ (by decide +kernel)) ggX7_wouldBegin_X7_isBusy
theorem dX7_wouldBegin_0 : decode cX7_wouldBegin 0 = .ok (.iconst 0, 1) := by decide +kernel
theorem dX7_wouldBegin_1 : decode cX7_wouldBegin 1 = .ok (.istore_n 2, 1) := by decide +kernel
theorem dX7_wouldBegin_2 : decode cX7_wouldBegin 2 = .ok (.iconst 0, 1) := by decide +kernel
theorem dX7_wouldBegin_3 : decode cX7_wouldBegin 3 = .ok (.istore_n 3, 1) := by decide +kernel
theorem dX7_wouldBegin_4 : decode cX7_wouldBegin 4 = .ok (.iload_n 3, 1) := by decide +kernel
theorem dX7_wouldBegin_5 : decode cX7_wouldBegin 5 = .ok (.iconst 4, 1) := by decide +kernel
theorem dX7_wouldBegin_6 : decode cX7_wouldBegin 6 = .ok (.if_icmp .ge 47, 3) := by decide +kernel
theorem dX7_wouldBegin_9 : decode cX7_wouldBegin 9 = .ok (.iload_n 2, 1) := by decide +kernel
theorem dX7_wouldBegin_10 : decode cX7_wouldBegin 10 = .ok (.ifCond .ne 31, 3) := by decide +kernel
theorem dX7_wouldBegin_13 : decode cX7_wouldBegin 13 = .ok (.iload_n 3, 1) := by decide +kernel
theorem dX7_wouldBegin_14 : decode cX7_wouldBegin 14 = .ok (.iload_n 1, 1) := by decide +kernel
theorem dX7_wouldBegin_15 : decode cX7_wouldBegin 15 = .ok (.if_icmp .eq 30, 3) := by decide +kernel
theorem dX7_wouldBegin_18 : decode cX7_wouldBegin 18 = .ok (.aload_n 0, 1) := by decide +kernel
theorem dX7_wouldBegin_19 : decode cX7_wouldBegin 19 = .ok (.getfield 7, 3) := by decide +kernel
theorem dX7_wouldBegin_22 : decode cX7_wouldBegin 22 = .ok (.iload_n 3, 1) := by decide +kernel
theorem dX7_wouldBegin_23 : decode cX7_wouldBegin 23 = .ok (.iaload, 1) := by decide +kernel
theorem dX7_wouldBegin_24 : decode cX7_wouldBegin 24 = .ok (.iconst 3, 1) := by decide +kernel
theorem dX7_wouldBegin_25 : decode cX7_wouldBegin 25 = .ok (.if_icmp .ne 20, 3) := by decide +kernel
theorem dX7_wouldBegin_28 : decode cX7_wouldBegin 28 = .ok (.aload_n 0, 1) := by decide +kernel
theorem dX7_wouldBegin_29 : decode cX7_wouldBegin 29 = .ok (.getfield 13, 3) := by decide +kernel
theorem dX7_wouldBegin_32 : decode cX7_wouldBegin 32 = .ok (.iload_n 3, 1) := by decide +kernel
theorem dX7_wouldBegin_33 : decode cX7_wouldBegin 33 = .ok (.iaload, 1) := by decide +kernel
theorem dX7_wouldBegin_34 : decode cX7_wouldBegin 34 = .ok (.aload_n 0, 1) := by decide +kernel
theorem dX7_wouldBegin_35 : decode cX7_wouldBegin 35 = .ok (.getfield 120, 3) := by decide +kernel
theorem dX7_wouldBegin_38 : decode cX7_wouldBegin 38 = .ok (.if_icmp .le 7, 3) := by decide +kernel
theorem dX7_wouldBegin_41 : decode cX7_wouldBegin 41 = .ok (.iconst 1, 1) := by decide +kernel
theorem dX7_wouldBegin_42 : decode cX7_wouldBegin 42 = .ok (.goto 4, 3) := by decide +kernel
theorem dX7_wouldBegin_45 : decode cX7_wouldBegin 45 = .ok (.iconst 0, 1) := by decide +kernel
theorem dX7_wouldBegin_46 : decode cX7_wouldBegin 46 = .ok (.istore_n 2, 1) := by decide +kernel
theorem dX7_wouldBegin_47 : decode cX7_wouldBegin 47 = .ok (.iinc 3 1, 3) := by decide +kernel
theorem dX7_wouldBegin_50 : decode cX7_wouldBegin 50 = .ok (.goto (-46), 3) := by decide +kernel
theorem dX7_wouldBegin_53 : decode cX7_wouldBegin 53 = .ok (.iload_n 2, 1) := by decide +kernel
theorem dX7_wouldBegin_54 : decode cX7_wouldBegin 54 = .ok (.ifCond .eq 29, 3) := by decide +kernel
theorem dX7_wouldBegin_57 : decode cX7_wouldBegin 57 = .ok (.aload_n 0, 1) := by decide +kernel
theorem dX7_wouldBegin_58 : decode cX7_wouldBegin 58 = .ok (.getfield 7, 3) := by decide +kernel
theorem dX7_wouldBegin_61 : decode cX7_wouldBegin 61 = .ok (.iload_n 1, 1) := by decide +kernel
theorem dX7_wouldBegin_62 : decode cX7_wouldBegin 62 = .ok (.iaload, 1) := by decide +kernel
theorem dX7_wouldBegin_63 : decode cX7_wouldBegin 63 = .ok (.iconst 1, 1) := by decide +kernel
theorem dX7_wouldBegin_64 : decode cX7_wouldBegin 64 = .ok (.iconst 2, 1) := by decide +kernel
theorem dX7_wouldBegin_65 : decode cX7_wouldBegin 65 = .ok (.invokestatic 96, 3) := by decide +kernel
theorem dX7_wouldBegin_68 : decode cX7_wouldBegin 68 = .ok (.ifCond .eq 15, 3) := by decide +kernel
theorem dX7_wouldBegin_71 : decode cX7_wouldBegin 71 = .ok (.aload_n 0, 1) := by decide +kernel
theorem dX7_wouldBegin_72 : decode cX7_wouldBegin 72 = .ok (.iload_n 1, 1) := by decide +kernel
theorem dX7_wouldBegin_73 : decode cX7_wouldBegin 73 = .ok (.invokevirtual 123, 3) := by decide +kernel
theorem dX7_wouldBegin_76 : decode cX7_wouldBegin 76 = .ok (.ifCond .ne 7, 3) := by decide +kernel
theorem dX7_wouldBegin_79 : decode cX7_wouldBegin 79 = .ok (.iconst 1, 1) := by decide +kernel
theorem dX7_wouldBegin_80 : decode cX7_wouldBegin 80 = .ok (.goto 4, 3) := by decide +kernel
theorem dX7_wouldBegin_83 : decode cX7_wouldBegin 83 = .ok (.iconst 0, 1) := by decide +kernel
theorem dX7_wouldBegin_84 : decode cX7_wouldBegin 84 = .ok (.ireturn, 1) := by decide +kernel
set_option maxRecDepth 20000 in
theorem ggX7_looks_X7_firstBlocked : GoodIn wsX7_looks wsX7_firstBlocked := goodIn_r _ [9, 3, 10, 47, 48, 49, 50, 51, 52, 53, 54, 55, 56, 57, 58, 59, 60, 61, 62, 63, 64, 65, 66, 67, 68, 69, 70, 71, 72, 73, 74, 75, 76, 77, 78] (by decide +kernel) (by decide +kernel)
set_option maxRecDepth 20000 in
theorem gX7_looks_X7_firstBlocked : GoodIn wsX7_looks (wsV RX7 126 RX7 yX7_firstBlocked wsX7_firstBlocked) := goodIn_app (goodIn_of _ (by decide +kernel)) ggX7_looks_X7_firstBlocked
set_option maxRecDepth 20000 in
theorem ggX7_looks_X7_isBusy : GoodIn wsX7_looks wsX7_isBusy := goodIn_r _ [14, 3, 15, 16, 8, 17, 47, 48, 49, 50, 51, 52, 53, 54, 55, 56, 57, 58, 59, 60, 61, 62, 63, 64, 65, 66, 67, 68, 69, 70, 71, 72, 73, 74, 75, 76, 77, 78] (by decide +kernel) (by decide +kernel)
set_option maxRecDepth 20000 in
theorem gX7_looks_X7_isBusy : GoodIn wsX7_looks (wsV RX7 123 RX7 yX7_isBusy wsX7_isBusy) := goodIn_app (goodIn_of _ (by decide +kernel)) ggX7_looks_X7_isBusy
set_option maxRecDepth 20000 in
theorem ggX7_looks_X7_adds : GoodIn wsX7_looks wsX7_adds := goodIn_r _ [21, 22, 23, 24, 25, 26, 47, 48, 49, 50, 51, 52, 53, 54, 55, 56, 57, 58, 59, 60, 61, 62, 63, 64, 65, 66, 67, 68, 69, 70, 71, 72, 73, 74, 75, 76, 77, 78] (by decide +kernel) (by decide +kernel)
set_option maxRecDepth 20000 in
theorem gX7_looks_X7_adds : GoodIn wsX7_looks (wsV RX7 130 RX7 yX7_adds wsX7_adds) := goodIn_app (goodIn_of _ (by decide +kernel)) ggX7_looks_X7_adds
set_option maxRecDepth 20000 in
theorem ggX7_looks_X7_runs : GoodIn wsX7_looks wsX7_runs := goodIn_r _ [30, 26, 25, 24, 31, 32, 33, 8, 34, 35, 36, 37, 38, 39, 40, 41, 42, 43, 44, 45, 46, 47, 48, 49, 50, 51, 52, 53, 54, 55, 56, 57, 58, 59, 60, 61, 62, 63, 64, 65, 66, 67, 68, 69, 70, 71, 72, 73, 74, 75, 76, 77, 78] (by decide +kernel) (by decide +kernel)
set_option maxRecDepth 20000 in
theorem gX7_looks_X7_runs : GoodIn wsX7_looks (wsV RX7 117 RX7 yX7_runs wsX7_runs) := goodIn_app (goodIn_of _ (by decide +kernel)) ggX7_looks_X7_runs
theorem dX7_looks_0 : decode cX7_looks 0 = .ok (.aload_n 0, 1) := by decide +kernel
theorem dX7_looks_1 : decode cX7_looks 1 = .ok (.invokevirtual 126, 3) := by decide +kernel
theorem dX7_looks_4 : decode cX7_looks 4 = .ok (.istore_n 1, 1) := by decide +kernel
theorem dX7_looks_5 : decode cX7_looks 5 = .ok (.iload_n 1, 1) := by decide +kernel
theorem dX7_looks_6 : decode cX7_looks 6 = .ok (.iconst (-1), 1) := by decide +kernel
theorem dX7_looks_7 : decode cX7_looks 7 = .ok (.if_icmp .eq 69, 3) := by decide +kernel
theorem dX7_looks_10 : decode cX7_looks 10 = .ok (.aload_n 0, 1) := by decide +kernel
theorem dX7_looks_11 : decode cX7_looks 11 = .ok (.iconst (-1), 1) := by decide +kernel
theorem dX7_looks_12 : decode cX7_looks 12 = .ok (.invokevirtual 123, 3) := by decide +kernel
theorem dX7_looks_15 : decode cX7_looks 15 = .ok (.ifCond .ne 61, 3) := by decide +kernel
theorem dX7_looks_18 : decode cX7_looks 18 = .ok (.aload_n 0, 1) := by decide +kernel
theorem dX7_looks_19 : decode cX7_looks 19 = .ok (.getfield 13, 3) := by decide +kernel
theorem dX7_looks_22 : decode cX7_looks 22 = .ok (.iload_n 1, 1) := by decide +kernel
theorem dX7_looks_23 : decode cX7_looks 23 = .ok (.iaload, 1) := by decide +kernel
theorem dX7_looks_24 : decode cX7_looks 24 = .ok (.aload_n 0, 1) := by decide +kernel
theorem dX7_looks_25 : decode cX7_looks 25 = .ok (.getfield 120, 3) := by decide +kernel
theorem dX7_looks_28 : decode cX7_looks 28 = .ok (.if_icmp .le 33, 3) := by decide +kernel
theorem dX7_looks_31 : decode cX7_looks 31 = .ok (.aload_n 0, 1) := by decide +kernel
theorem dX7_looks_32 : decode cX7_looks 32 = .ok (.getfield 7, 3) := by decide +kernel
theorem dX7_looks_35 : decode cX7_looks 35 = .ok (.iload_n 1, 1) := by decide +kernel
theorem dX7_looks_36 : decode cX7_looks 36 = .ok (.iconst 2, 1) := by decide +kernel
theorem dX7_looks_37 : decode cX7_looks 37 = .ok (.iastore, 1) := by decide +kernel
theorem dX7_looks_38 : decode cX7_looks 38 = .ok (.aload_n 0, 1) := by decide +kernel
theorem dX7_looks_39 : decode cX7_looks 39 = .ok (.aload_n 0, 1) := by decide +kernel
theorem dX7_looks_40 : decode cX7_looks 40 = .ok (.iload_n 1, 1) := by decide +kernel
theorem dX7_looks_41 : decode cX7_looks 41 = .ok (.bipush 7, 2) := by decide +kernel
theorem dX7_looks_43 : decode cX7_looks 43 = .ok (.iconst 1, 1) := by decide +kernel
theorem dX7_looks_44 : decode cX7_looks 44 = .ok (.invokevirtual 130, 3) := by decide +kernel
theorem dX7_looks_47 : decode cX7_looks 47 = .ok (.putfield 19, 3) := by decide +kernel
theorem dX7_looks_50 : decode cX7_looks 50 = .ok (.aload_n 0, 1) := by decide +kernel
theorem dX7_looks_51 : decode cX7_looks 51 = .ok (.aload_n 0, 1) := by decide +kernel
theorem dX7_looks_52 : decode cX7_looks 52 = .ok (.getfield 19, 3) := by decide +kernel
theorem dX7_looks_55 : decode cX7_looks 55 = .ok (.invokevirtual 117, 3) := by decide +kernel
theorem dX7_looks_58 : decode cX7_looks 58 = .ok (.goto 10, 3) := by decide +kernel
theorem dX7_looks_61 : decode cX7_looks 61 = .ok (.aload_n 0, 1) := by decide +kernel
theorem dX7_looks_62 : decode cX7_looks 62 = .ok (.getfield 7, 3) := by decide +kernel
theorem dX7_looks_65 : decode cX7_looks 65 = .ok (.iload_n 1, 1) := by decide +kernel
theorem dX7_looks_66 : decode cX7_looks 66 = .ok (.iconst 0, 1) := by decide +kernel
theorem dX7_looks_67 : decode cX7_looks 67 = .ok (.iastore, 1) := by decide +kernel
theorem dX7_looks_68 : decode cX7_looks 68 = .ok (.aload_n 0, 1) := by decide +kernel
theorem dX7_looks_69 : decode cX7_looks 69 = .ok (.invokevirtual 126, 3) := by decide +kernel
theorem dX7_looks_72 : decode cX7_looks 72 = .ok (.istore_n 1, 1) := by decide +kernel
theorem dX7_looks_73 : decode cX7_looks 73 = .ok (.goto (-68), 3) := by decide +kernel
theorem dX7_looks_76 : decode cX7_looks 76 = .ok (.return_, 1) := by decide +kernel
set_option maxRecDepth 20000 in
theorem ggX7_open_X7_isTab : GoodIn wsX7_open wsX7_isTab := goodIn_r _ [11, 12, 13, 10, 14] (by decide +kernel) (by decide +kernel)
set_option maxRecDepth 20000 in
theorem gX7_open_X7_isTab : GoodIn wsX7_open (va_wsS RX7 134 yX7_isTab wsX7_isTab) := goodIn_app (goodIn_of _ (by decide +kernel)) ggX7_open_X7_isTab
set_option maxRecDepth 20000 in
theorem ggX7_open_X7_isIn : GoodIn wsX7_open wsX7_isIn := goodIn_r _ [14] (by decide +kernel) (by decide +kernel)
set_option maxRecDepth 20000 in
theorem gX7_open_X7_isIn : GoodIn wsX7_open (va_wsS RX7 96 yX7_isIn wsX7_isIn) := goodIn_app (goodIn_of _ (by decide +kernel)) ggX7_open_X7_isIn
set_option maxRecDepth 20000 in
theorem ggX7_open_X7_isBusy : GoodIn wsX7_open wsX7_isBusy := goodIn_r _ [18, 1, 12, 13, 10, 14, 60, 61, 62, 63, 64, 65, 66, 67, 68, 69, 70, 71, 72, 73, 74, 75, 76, 77, 78, 79, 80, 81, 82, 83, 84, 85, 86, 87, 88, 89, 90, 91] (by decide +kernel) (by decide +kernel)
set_option maxRecDepth 20000 in
theorem gX7_open_X7_isBusy : GoodIn wsX7_open (wsV RX7 123 RX7 yX7_isBusy wsX7_isBusy) := goodIn_app (goodIn_of _ (by decide +kernel)) ggX7_open_X7_isBusy
set_option maxRecDepth 20000 in
theorem ggX7_open_X7_fails : GoodIn wsX7_open wsX7_fails := goodIn_r _ [22, 23, 60, 61, 62, 63, 64, 65, 66, 67, 68, 69, 70, 71, 72, 73, 74, 75, 76, 77, 78, 79, 80, 81, 82, 83, 84, 85, 86, 87, 88, 89, 90, 91] (by decide +kernel) (by decide +kernel)
set_option maxRecDepth 20000 in
theorem gX7_open_X7_fails : GoodIn wsX7_open (wsV RX7 137 RX7 yX7_fails wsX7_fails) := goodIn_app (goodIn_of _ (by decide +kernel)) ggX7_open_X7_fails
set_option maxRecDepth 20000 in
theorem ggX7_open_X7_looks : GoodIn wsX7_open wsX7_looks := goodIn_r _ [27, 5, 2, 1, 3, 28, 29, 30, 10, 31, 6, 15, 16, 17, 18, 12, 13, 14, 32, 33, 34, 35, 36, 4, 37, 38, 39, 40, 41, 42, 43, 44, 45, 46, 47, 48, 49, 50, 51, 52, 53, 54, 55, 56, 57, 58, 59, 60, 61, 62, 63, 64, 65, 66, 67, 68, 69, 70, 71, 72, 73, 74, 75, 76, 77, 78, 79, 80, 81, 82, 83, 84, 85, 86, 87, 88, 89, 90, 91] (by decide +kernel) (by decide +kernel)
set_option maxRecDepth 20000 in
theorem gX7_open_X7_looks : GoodIn wsX7_open (wsV RX7 143 RX7 yX7_looks wsX7_looks) := goodIn_app (goodIn_of _ (by decide +kernel)) ggX7_open_X7_looks
theorem dX7_open_0 : decode cX7_open 0 = .ok (.iload_n 1, 1) := by decide +kernel
theorem dX7_open_1 : decode cX7_open 1 = .ok (.invokestatic 134, 3) := by decide +kernel
theorem dX7_open_4 : decode cX7_open 4 = .ok (.istore_n 3, 1) := by decide +kernel
theorem dX7_open_5 : decode cX7_open 5 = .ok (.iload_n 2, 1) := by decide +kernel
theorem dX7_open_6 : decode cX7_open 6 = .ok (.iconst 1, 1) := by decide +kernel
theorem dX7_open_7 : decode cX7_open 7 = .ok (.bipush 100, 2) := by decide +kernel
theorem dX7_open_9 : decode cX7_open 9 = .ok (.invokestatic 96, 3) := by decide +kernel
theorem dX7_open_12 : decode cX7_open 12 = .ok (.istore 4, 2) := by decide +kernel
theorem dX7_open_14 : decode cX7_open 14 = .ok (.iload_n 3, 1) := by decide +kernel
theorem dX7_open_15 : decode cX7_open 15 = .ok (.ifCond .eq 40, 3) := by decide +kernel
theorem dX7_open_18 : decode cX7_open 18 = .ok (.aload_n 0, 1) := by decide +kernel
theorem dX7_open_19 : decode cX7_open 19 = .ok (.getfield 7, 3) := by decide +kernel
theorem dX7_open_22 : decode cX7_open 22 = .ok (.iload_n 1, 1) := by decide +kernel
theorem dX7_open_23 : decode cX7_open 23 = .ok (.iaload, 1) := by decide +kernel
theorem dX7_open_24 : decode cX7_open 24 = .ok (.ifCond .ne 27, 3) := by decide +kernel
theorem dX7_open_27 : decode cX7_open 27 = .ok (.iload_n 2, 1) := by decide +kernel
theorem dX7_open_28 : decode cX7_open 28 = .ok (.aload_n 0, 1) := by decide +kernel
theorem dX7_open_29 : decode cX7_open 29 = .ok (.getfield 120, 3) := by decide +kernel
theorem dX7_open_32 : decode cX7_open 32 = .ok (.if_icmp .lt 19, 3) := by decide +kernel
theorem dX7_open_35 : decode cX7_open 35 = .ok (.iload_n 2, 1) := by decide +kernel
theorem dX7_open_36 : decode cX7_open 36 = .ok (.aload_n 0, 1) := by decide +kernel
theorem dX7_open_37 : decode cX7_open 37 = .ok (.getfield 120, 3) := by decide +kernel
theorem dX7_open_40 : decode cX7_open 40 = .ok (.if_icmp .ne 15, 3) := by decide +kernel
theorem dX7_open_43 : decode cX7_open 43 = .ok (.aload_n 0, 1) := by decide +kernel
theorem dX7_open_44 : decode cX7_open 44 = .ok (.getfield 19, 3) := by decide +kernel
theorem dX7_open_47 : decode cX7_open 47 = .ok (.iconst (-1), 1) := by decide +kernel
theorem dX7_open_48 : decode cX7_open 48 = .ok (.if_icmp .eq 7, 3) := by decide +kernel
theorem dX7_open_51 : decode cX7_open 51 = .ok (.iconst 1, 1) := by decide +kernel
theorem dX7_open_52 : decode cX7_open 52 = .ok (.goto 4, 3) := by decide +kernel
theorem dX7_open_55 : decode cX7_open 55 = .ok (.iconst 0, 1) := by decide +kernel
theorem dX7_open_56 : decode cX7_open 56 = .ok (.istore 5, 2) := by decide +kernel
theorem dX7_open_58 : decode cX7_open 58 = .ok (.iload_n 3, 1) := by decide +kernel
theorem dX7_open_59 : decode cX7_open 59 = .ok (.ifCond .eq 32, 3) := by decide +kernel
theorem dX7_open_62 : decode cX7_open 62 = .ok (.iload_n 2, 1) := by decide +kernel
theorem dX7_open_63 : decode cX7_open 63 = .ok (.aload_n 0, 1) := by decide +kernel
theorem dX7_open_64 : decode cX7_open 64 = .ok (.getfield 120, 3) := by decide +kernel
theorem dX7_open_67 : decode cX7_open 67 = .ok (.if_icmp .le 24, 3) := by decide +kernel
theorem dX7_open_70 : decode cX7_open 70 = .ok (.aload_n 0, 1) := by decide +kernel
theorem dX7_open_71 : decode cX7_open 71 = .ok (.iconst (-1), 1) := by decide +kernel
theorem dX7_open_72 : decode cX7_open 72 = .ok (.invokevirtual 123, 3) := by decide +kernel
theorem dX7_open_75 : decode cX7_open 75 = .ok (.ifCond .ne 16, 3) := by decide +kernel
theorem dX7_open_78 : decode cX7_open 78 = .ok (.aload_n 0, 1) := by decide +kernel
theorem dX7_open_79 : decode cX7_open 79 = .ok (.getfield 100, 3) := by decide +kernel
theorem dX7_open_82 : decode cX7_open 82 = .ok (.bipush 60, 2) := by decide +kernel
theorem dX7_open_84 : decode cX7_open 84 = .ok (.if_icmp .ne 7, 3) := by decide +kernel
theorem dX7_open_87 : decode cX7_open 87 = .ok (.iconst 1, 1) := by decide +kernel
theorem dX7_open_88 : decode cX7_open 88 = .ok (.goto 4, 3) := by decide +kernel
theorem dX7_open_91 : decode cX7_open 91 = .ok (.iconst 0, 1) := by decide +kernel
theorem dX7_open_92 : decode cX7_open 92 = .ok (.istore 6, 2) := by decide +kernel
theorem dX7_open_94 : decode cX7_open 94 = .ok (.aload_n 0, 1) := by decide +kernel
theorem dX7_open_95 : decode cX7_open 95 = .ok (.iload_n 3, 1) := by decide +kernel
theorem dX7_open_96 : decode cX7_open 96 = .ok (.ifCond .ne 7, 3) := by decide +kernel
theorem dX7_open_99 : decode cX7_open 99 = .ok (.iconst 1, 1) := by decide +kernel
theorem dX7_open_100 : decode cX7_open 100 = .ok (.goto 27, 3) := by decide +kernel
theorem dX7_open_103 : decode cX7_open 103 = .ok (.iload 4, 2) := by decide +kernel
theorem dX7_open_105 : decode cX7_open 105 = .ok (.ifCond .ne 7, 3) := by decide +kernel
theorem dX7_open_108 : decode cX7_open 108 = .ok (.iconst 2, 1) := by decide +kernel
theorem dX7_open_109 : decode cX7_open 109 = .ok (.goto 18, 3) := by decide +kernel
theorem dX7_open_112 : decode cX7_open 112 = .ok (.iload 5, 2) := by decide +kernel
theorem dX7_open_114 : decode cX7_open 114 = .ok (.ifCond .ne 8, 3) := by decide +kernel
theorem dX7_open_117 : decode cX7_open 117 = .ok (.iload 6, 2) := by decide +kernel
theorem dX7_open_119 : decode cX7_open 119 = .ok (.ifCond .eq 7, 3) := by decide +kernel
theorem dX7_open_122 : decode cX7_open 122 = .ok (.iconst 3, 1) := by decide +kernel
theorem dX7_open_123 : decode cX7_open 123 = .ok (.goto 4, 3) := by decide +kernel
theorem dX7_open_126 : decode cX7_open 126 = .ok (.iconst 0, 1) := by decide +kernel
theorem dX7_open_127 : decode cX7_open 127 = .ok (.invokevirtual 137, 3) := by decide +kernel
theorem dX7_open_130 : decode cX7_open 130 = .ok (.ifCond .eq 5, 3) := by decide +kernel
theorem dX7_open_133 : decode cX7_open 133 = .ok (.iconst 0, 1) := by decide +kernel
theorem dX7_open_134 : decode cX7_open 134 = .ok (.ireturn, 1) := by decide +kernel
theorem dX7_open_135 : decode cX7_open 135 = .ok (.aload_n 0, 1) := by decide +kernel
theorem dX7_open_136 : decode cX7_open 136 = .ok (.getfield 7, 3) := by decide +kernel
theorem dX7_open_139 : decode cX7_open 139 = .ok (.iload_n 1, 1) := by decide +kernel
theorem dX7_open_140 : decode cX7_open 140 = .ok (.iload_n 2, 1) := by decide +kernel
theorem dX7_open_141 : decode cX7_open 141 = .ok (.aload_n 0, 1) := by decide +kernel
theorem dX7_open_142 : decode cX7_open 142 = .ok (.getfield 120, 3) := by decide +kernel
theorem dX7_open_145 : decode cX7_open 145 = .ok (.if_icmp .ne 7, 3) := by decide +kernel
theorem dX7_open_148 : decode cX7_open 148 = .ok (.iconst 1, 1) := by decide +kernel
theorem dX7_open_149 : decode cX7_open 149 = .ok (.goto 4, 3) := by decide +kernel
theorem dX7_open_152 : decode cX7_open 152 = .ok (.iconst 3, 1) := by decide +kernel
theorem dX7_open_153 : decode cX7_open 153 = .ok (.iastore, 1) := by decide +kernel
theorem dX7_open_154 : decode cX7_open 154 = .ok (.aload_n 0, 1) := by decide +kernel
theorem dX7_open_155 : decode cX7_open 155 = .ok (.getfield 13, 3) := by decide +kernel
theorem dX7_open_158 : decode cX7_open 158 = .ok (.iload_n 1, 1) := by decide +kernel
theorem dX7_open_159 : decode cX7_open 159 = .ok (.iload_n 2, 1) := by decide +kernel
theorem dX7_open_160 : decode cX7_open 160 = .ok (.iastore, 1) := by decide +kernel
theorem dX7_open_161 : decode cX7_open 161 = .ok (.aload_n 0, 1) := by decide +kernel
theorem dX7_open_162 : decode cX7_open 162 = .ok (.getfield 16, 3) := by decide +kernel
theorem dX7_open_165 : decode cX7_open 165 = .ok (.iload_n 1, 1) := by decide +kernel
theorem dX7_open_166 : decode cX7_open 166 = .ok (.aload_n 0, 1) := by decide +kernel
theorem dX7_open_167 : decode cX7_open 167 = .ok (.getfield 140, 3) := by decide +kernel
theorem dX7_open_170 : decode cX7_open 170 = .ok (.iastore, 1) := by decide +kernel
theorem dX7_open_171 : decode cX7_open 171 = .ok (.aload_n 0, 1) := by decide +kernel
theorem dX7_open_172 : decode cX7_open 172 = .ok (.dup, 1) := by decide +kernel
theorem dX7_open_173 : decode cX7_open 173 = .ok (.getfield 140, 3) := by decide +kernel
theorem dX7_open_176 : decode cX7_open 176 = .ok (.iconst 1, 1) := by decide +kernel
theorem dX7_open_177 : decode cX7_open 177 = .ok (.iadd, 1) := by decide +kernel
theorem dX7_open_178 : decode cX7_open 178 = .ok (.putfield 140, 3) := by decide +kernel
theorem dX7_open_181 : decode cX7_open 181 = .ok (.aload_n 0, 1) := by decide +kernel
theorem dX7_open_182 : decode cX7_open 182 = .ok (.invokevirtual 143, 3) := by decide +kernel
theorem dX7_open_185 : decode cX7_open 185 = .ok (.aload_n 0, 1) := by decide +kernel
theorem dX7_open_186 : decode cX7_open 186 = .ok (.getfield 7, 3) := by decide +kernel
theorem dX7_open_189 : decode cX7_open 189 = .ok (.iload_n 1, 1) := by decide +kernel
theorem dX7_open_190 : decode cX7_open 190 = .ok (.iaload, 1) := by decide +kernel
theorem dX7_open_191 : decode cX7_open 191 = .ok (.ireturn, 1) := by decide +kernel
set_option maxRecDepth 20000 in
theorem ggX7_aborts_X7_restores : GoodIn wsX7_aborts wsX7_restores := goodIn_r _ [11, 12, 13, 14, 15, 16, 17, 18, 19, 20, 21, 22, 23, 24, 25, 26, 27, 28, 29, 30, 31, 32, 33, 34, 35, 36, 37, 38, 39, 40, 41, 42, 43, 44, 45, 46, 47, 48, 49, 50, 51, 52, 53, 54, 55] (by decide +kernel) (by decide +kernel)
set_option maxRecDepth 20000 in
theorem gX7_aborts_X7_restores : GoodIn wsX7_aborts (wsV RX7 146 RX7 yX7_restores wsX7_restores) := goodIn_app (goodIn_of _ (by decide +kernel)) ggX7_aborts_X7_restores
theorem dX7_aborts_0 : decode cX7_aborts 0 = .ok (.iconst 0, 1) := by decide +kernel
theorem dX7_aborts_1 : decode cX7_aborts 1 = .ok (.istore_n 2, 1) := by decide +kernel
theorem dX7_aborts_2 : decode cX7_aborts 2 = .ok (.iload_n 2, 1) := by decide +kernel
theorem dX7_aborts_3 : decode cX7_aborts 3 = .ok (.iconst 3, 1) := by decide +kernel
theorem dX7_aborts_4 : decode cX7_aborts 4 = .ok (.if_icmp .ge 47, 3) := by decide +kernel
theorem dX7_aborts_7 : decode cX7_aborts 7 = .ok (.aload_n 0, 1) := by decide +kernel
theorem dX7_aborts_8 : decode cX7_aborts 8 = .ok (.getfield 69, 3) := by decide +kernel
theorem dX7_aborts_11 : decode cX7_aborts 11 = .ok (.iload_n 1, 1) := by decide +kernel
theorem dX7_aborts_12 : decode cX7_aborts 12 = .ok (.iaload, 1) := by decide +kernel
theorem dX7_aborts_13 : decode cX7_aborts 13 = .ok (.iconst 1, 1) := by decide +kernel
theorem dX7_aborts_14 : decode cX7_aborts 14 = .ok (.if_icmp .ne 37, 3) := by decide +kernel
theorem dX7_aborts_17 : decode cX7_aborts 17 = .ok (.aload_n 0, 1) := by decide +kernel
theorem dX7_aborts_18 : decode cX7_aborts 18 = .ok (.getfield 66, 3) := by decide +kernel
theorem dX7_aborts_21 : decode cX7_aborts 21 = .ok (.iload_n 1, 1) := by decide +kernel
theorem dX7_aborts_22 : decode cX7_aborts 22 = .ok (.baload, 1) := by decide +kernel
theorem dX7_aborts_23 : decode cX7_aborts 23 = .ok (.ifCond .eq 28, 3) := by decide +kernel
theorem dX7_aborts_26 : decode cX7_aborts 26 = .ok (.aload_n 0, 1) := by decide +kernel
theorem dX7_aborts_27 : decode cX7_aborts 27 = .ok (.getfield 63, 3) := by decide +kernel
theorem dX7_aborts_30 : decode cX7_aborts 30 = .ok (.iload_n 1, 1) := by decide +kernel
theorem dX7_aborts_31 : decode cX7_aborts 31 = .ok (.iaload, 1) := by decide +kernel
theorem dX7_aborts_32 : decode cX7_aborts 32 = .ok (.iload_n 2, 1) := by decide +kernel
theorem dX7_aborts_33 : decode cX7_aborts 33 = .ok (.ishr, 1) := by decide +kernel
theorem dX7_aborts_34 : decode cX7_aborts 34 = .ok (.iconst 1, 1) := by decide +kernel
theorem dX7_aborts_35 : decode cX7_aborts 35 = .ok (.iand, 1) := by decide +kernel
theorem dX7_aborts_36 : decode cX7_aborts 36 = .ok (.iconst 1, 1) := by decide +kernel
theorem dX7_aborts_37 : decode cX7_aborts 37 = .ok (.if_icmp .ne 8, 3) := by decide +kernel
theorem dX7_aborts_40 : decode cX7_aborts 40 = .ok (.aload_n 0, 1) := by decide +kernel
theorem dX7_aborts_41 : decode cX7_aborts 41 = .ok (.iload_n 2, 1) := by decide +kernel
theorem dX7_aborts_42 : decode cX7_aborts 42 = .ok (.invokevirtual 146, 3) := by decide +kernel
theorem dX7_aborts_45 : decode cX7_aborts 45 = .ok (.iinc 2 1, 3) := by decide +kernel
theorem dX7_aborts_48 : decode cX7_aborts 48 = .ok (.goto (-46), 3) := by decide +kernel
theorem dX7_aborts_51 : decode cX7_aborts 51 = .ok (.aload_n 0, 1) := by decide +kernel
theorem dX7_aborts_52 : decode cX7_aborts 52 = .ok (.getfield 69, 3) := by decide +kernel
theorem dX7_aborts_55 : decode cX7_aborts 55 = .ok (.iload_n 1, 1) := by decide +kernel
theorem dX7_aborts_56 : decode cX7_aborts 56 = .ok (.iconst 3, 1) := by decide +kernel
theorem dX7_aborts_57 : decode cX7_aborts 57 = .ok (.iastore, 1) := by decide +kernel
theorem dX7_aborts_58 : decode cX7_aborts 58 = .ok (.iload_n 1, 1) := by decide +kernel
theorem dX7_aborts_59 : decode cX7_aborts 59 = .ok (.aload_n 0, 1) := by decide +kernel
theorem dX7_aborts_60 : decode cX7_aborts 60 = .ok (.getfield 19, 3) := by decide +kernel
theorem dX7_aborts_63 : decode cX7_aborts 63 = .ok (.if_icmp .ne 20, 3) := by decide +kernel
theorem dX7_aborts_66 : decode cX7_aborts 66 = .ok (.aload_n 0, 1) := by decide +kernel
theorem dX7_aborts_67 : decode cX7_aborts 67 = .ok (.iconst (-1), 1) := by decide +kernel
theorem dX7_aborts_68 : decode cX7_aborts 68 = .ok (.putfield 19, 3) := by decide +kernel
theorem dX7_aborts_71 : decode cX7_aborts 71 = .ok (.aload_n 0, 1) := by decide +kernel
theorem dX7_aborts_72 : decode cX7_aborts 72 = .ok (.getfield 7, 3) := by decide +kernel
theorem dX7_aborts_75 : decode cX7_aborts 75 = .ok (.aload_n 0, 1) := by decide +kernel
theorem dX7_aborts_76 : decode cX7_aborts 76 = .ok (.getfield 60, 3) := by decide +kernel
theorem dX7_aborts_79 : decode cX7_aborts 79 = .ok (.iload_n 1, 1) := by decide +kernel
theorem dX7_aborts_80 : decode cX7_aborts 80 = .ok (.iaload, 1) := by decide +kernel
theorem dX7_aborts_81 : decode cX7_aborts 81 = .ok (.iconst 0, 1) := by decide +kernel
theorem dX7_aborts_82 : decode cX7_aborts 82 = .ok (.iastore, 1) := by decide +kernel
theorem dX7_aborts_83 : decode cX7_aborts 83 = .ok (.return_, 1) := by decide +kernel
set_option maxRecDepth 20000 in
theorem ggX7_close_X7_isTab : GoodIn wsX7_close wsX7_isTab := goodIn_r _ [7, 8, 9, 6, 10] (by decide +kernel) (by decide +kernel)
set_option maxRecDepth 20000 in
theorem gX7_close_X7_isTab : GoodIn wsX7_close (va_wsS RX7 134 yX7_isTab wsX7_isTab) := goodIn_app (goodIn_of _ (by decide +kernel)) ggX7_close_X7_isTab
set_option maxRecDepth 20000 in
theorem ggX7_close_X7_wouldBegin : GoodIn wsX7_close wsX7_wouldBegin := goodIn_r _ [14, 1, 15, 16, 8, 9, 6, 10, 17, 18, 19, 20, 83, 84, 85, 86, 87, 88, 89, 90, 91, 92, 93, 94, 95, 96, 97, 98, 99, 100, 101, 102, 103, 104, 105, 106, 107, 108, 109, 110, 111, 112, 113, 114] (by decide +kernel) (by decide +kernel)
set_option maxRecDepth 20000 in
theorem gX7_close_X7_wouldBegin : GoodIn wsX7_close (wsV RX7 149 RX7 yX7_wouldBegin wsX7_wouldBegin) := goodIn_app (goodIn_of _ (by decide +kernel)) ggX7_close_X7_wouldBegin
set_option maxRecDepth 20000 in
theorem ggX7_close_X7_fails : GoodIn wsX7_close wsX7_fails := goodIn_r _ [24, 25, 83, 84, 85, 86, 87, 88, 89, 90, 91, 92, 93, 94, 95, 96, 97, 98, 99, 100, 101, 102, 103, 104, 105, 106, 107, 108, 109, 110, 111, 112, 113, 114] (by decide +kernel) (by decide +kernel)
set_option maxRecDepth 20000 in
theorem gX7_close_X7_fails : GoodIn wsX7_close (wsV RX7 137 RX7 yX7_fails wsX7_fails) := goodIn_app (goodIn_of _ (by decide +kernel)) ggX7_close_X7_fails
set_option maxRecDepth 20000 in
theorem ggX7_close_X7_isAlive : GoodIn wsX7_close wsX7_isAlive := goodIn_r _ [29, 30, 83, 84, 85, 86, 87, 88, 89, 90, 91, 92, 93, 94, 95, 96, 97, 98, 99, 100, 101, 102, 103, 104, 105, 106, 107, 108, 109, 110, 111, 112, 113, 114] (by decide +kernel) (by decide +kernel)
set_option maxRecDepth 20000 in
theorem gX7_close_X7_isAlive : GoodIn wsX7_close (wsV RX7 110 RX7 yX7_isAlive wsX7_isAlive) := goodIn_app (goodIn_of _ (by decide +kernel)) ggX7_close_X7_isAlive
set_option maxRecDepth 20000 in
theorem ggX7_close_X7_aborts : GoodIn wsX7_close wsX7_aborts := goodIn_r _ [34, 30, 35, 36, 37, 1, 3, 38, 39, 40, 6, 41, 42, 43, 44, 45, 46, 47, 48, 49, 50, 51, 52, 53, 83, 84, 85, 86, 87, 88, 89, 90, 91, 92, 93, 94, 95, 96, 97, 98, 99, 100, 101, 102, 103, 104, 105, 106, 107, 108, 109, 110, 111, 112, 113, 114] (by decide +kernel) (by decide +kernel)
set_option maxRecDepth 20000 in
theorem gX7_close_X7_aborts : GoodIn wsX7_close (wsV RX7 152 RX7 yX7_aborts wsX7_aborts) := goodIn_app (goodIn_of _ (by decide +kernel)) ggX7_close_X7_aborts
set_option maxRecDepth 20000 in
theorem ggX7_close_X7_goesOn : GoodIn wsX7_close wsX7_goesOn := goodIn_r _ [57, 2, 30, 58, 59, 60, 6, 61, 36, 35, 26, 27, 28, 29, 62, 63, 64, 65, 66, 67, 68, 69, 43, 42, 45, 44, 47, 46, 49, 48, 51, 50, 53, 52, 83, 84, 85, 86, 87, 88, 89, 90, 91, 92, 93, 94, 95, 96, 97, 98, 99, 100, 101, 102, 103, 104, 105, 106, 107, 108, 109, 110, 111, 112, 113, 114] (by decide +kernel) (by decide +kernel)
set_option maxRecDepth 20000 in
theorem gX7_close_X7_goesOn : GoodIn wsX7_close (wsV RX7 155 RX7 yX7_goesOn wsX7_goesOn) := goodIn_app (goodIn_of _ (by decide +kernel)) ggX7_close_X7_goesOn
set_option maxRecDepth 20000 in
theorem ggX7_close_X7_looks : GoodIn wsX7_close wsX7_looks := goodIn_r _ [73, 15, 16, 1, 37, 74, 75, 76, 6, 77, 78, 17, 18, 19, 20, 8, 9, 10, 79, 80, 81, 82, 3, 2, 36, 35, 30, 62, 63, 64, 65, 66, 67, 68, 69, 43, 42, 45, 44, 47, 46, 49, 48, 51, 50, 53, 52, 83, 84, 85, 86, 87, 88, 89, 90, 91, 92, 93, 94, 95, 96, 97, 98, 99, 100, 101, 102, 103, 104, 105, 106, 107, 108, 109, 110, 111, 112, 113, 114] (by decide +kernel) (by decide +kernel)
set_option maxRecDepth 20000 in
theorem gX7_close_X7_looks : GoodIn wsX7_close (wsV RX7 143 RX7 yX7_looks wsX7_looks) := goodIn_app (goodIn_of _ (by decide +kernel)) ggX7_close_X7_looks
theorem dX7_close_0 : decode cX7_close 0 = .ok (.iload_n 1, 1) := by decide +kernel
theorem dX7_close_1 : decode cX7_close 1 = .ok (.invokestatic 134, 3) := by decide +kernel
theorem dX7_close_4 : decode cX7_close 4 = .ok (.istore_n 2, 1) := by decide +kernel
theorem dX7_close_5 : decode cX7_close 5 = .ok (.aload_n 0, 1) := by decide +kernel
theorem dX7_close_6 : decode cX7_close 6 = .ok (.iload_n 2, 1) := by decide +kernel
theorem dX7_close_7 : decode cX7_close 7 = .ok (.ifCond .ne 7, 3) := by decide +kernel
theorem dX7_close_10 : decode cX7_close 10 = .ok (.iconst 1, 1) := by decide +kernel
theorem dX7_close_11 : decode cX7_close 11 = .ok (.goto 34, 3) := by decide +kernel
theorem dX7_close_14 : decode cX7_close 14 = .ok (.aload_n 0, 1) := by decide +kernel
theorem dX7_close_15 : decode cX7_close 15 = .ok (.getfield 7, 3) := by decide +kernel
theorem dX7_close_18 : decode cX7_close 18 = .ok (.iload_n 1, 1) := by decide +kernel
theorem dX7_close_19 : decode cX7_close 19 = .ok (.iaload, 1) := by decide +kernel
theorem dX7_close_20 : decode cX7_close 20 = .ok (.ifCond .eq 20, 3) := by decide +kernel
theorem dX7_close_23 : decode cX7_close 23 = .ok (.aload_n 0, 1) := by decide +kernel
theorem dX7_close_24 : decode cX7_close 24 = .ok (.iload_n 1, 1) := by decide +kernel
theorem dX7_close_25 : decode cX7_close 25 = .ok (.invokevirtual 149, 3) := by decide +kernel
theorem dX7_close_28 : decode cX7_close 28 = .ok (.ifCond .eq 16, 3) := by decide +kernel
theorem dX7_close_31 : decode cX7_close 31 = .ok (.aload_n 0, 1) := by decide +kernel
theorem dX7_close_32 : decode cX7_close 32 = .ok (.getfield 100, 3) := by decide +kernel
theorem dX7_close_35 : decode cX7_close 35 = .ok (.bipush 60, 2) := by decide +kernel
theorem dX7_close_37 : decode cX7_close 37 = .ok (.if_icmp .ne 7, 3) := by decide +kernel
theorem dX7_close_40 : decode cX7_close 40 = .ok (.iconst 2, 1) := by decide +kernel
theorem dX7_close_41 : decode cX7_close 41 = .ok (.goto 4, 3) := by decide +kernel
theorem dX7_close_44 : decode cX7_close 44 = .ok (.iconst 0, 1) := by decide +kernel
theorem dX7_close_45 : decode cX7_close 45 = .ok (.invokevirtual 137, 3) := by decide +kernel
theorem dX7_close_48 : decode cX7_close 48 = .ok (.ifCond .eq 5, 3) := by decide +kernel
theorem dX7_close_51 : decode cX7_close 51 = .ok (.iconst 0, 1) := by decide +kernel
theorem dX7_close_52 : decode cX7_close 52 = .ok (.ireturn, 1) := by decide +kernel
theorem dX7_close_53 : decode cX7_close 53 = .ok (.aload_n 0, 1) := by decide +kernel
theorem dX7_close_54 : decode cX7_close 54 = .ok (.getfield 7, 3) := by decide +kernel
theorem dX7_close_57 : decode cX7_close 57 = .ok (.iload_n 1, 1) := by decide +kernel
theorem dX7_close_58 : decode cX7_close 58 = .ok (.iaload, 1) := by decide +kernel
theorem dX7_close_59 : decode cX7_close 59 = .ok (.istore_n 3, 1) := by decide +kernel
theorem dX7_close_60 : decode cX7_close 60 = .ok (.aload_n 0, 1) := by decide +kernel
theorem dX7_close_61 : decode cX7_close 61 = .ok (.getfield 100, 3) := by decide +kernel
theorem dX7_close_64 : decode cX7_close 64 = .ok (.iconst 1, 1) := by decide +kernel
theorem dX7_close_65 : decode cX7_close 65 = .ok (.isub, 1) := by decide +kernel
theorem dX7_close_66 : decode cX7_close 66 = .ok (.istore 4, 2) := by decide +kernel
theorem dX7_close_68 : decode cX7_close 68 = .ok (.iload 4, 2) := by decide +kernel
theorem dX7_close_70 : decode cX7_close 70 = .ok (.ifCond .lt 35, 3) := by decide +kernel
theorem dX7_close_73 : decode cX7_close 73 = .ok (.aload_n 0, 1) := by decide +kernel
theorem dX7_close_74 : decode cX7_close 74 = .ok (.getfield 60, 3) := by decide +kernel
theorem dX7_close_77 : decode cX7_close 77 = .ok (.iload 4, 2) := by decide +kernel
theorem dX7_close_79 : decode cX7_close 79 = .ok (.iaload, 1) := by decide +kernel
theorem dX7_close_80 : decode cX7_close 80 = .ok (.iload_n 1, 1) := by decide +kernel
theorem dX7_close_81 : decode cX7_close 81 = .ok (.if_icmp .ne 18, 3) := by decide +kernel
theorem dX7_close_84 : decode cX7_close 84 = .ok (.aload_n 0, 1) := by decide +kernel
theorem dX7_close_85 : decode cX7_close 85 = .ok (.iload 4, 2) := by decide +kernel
theorem dX7_close_87 : decode cX7_close 87 = .ok (.invokevirtual 110, 3) := by decide +kernel
theorem dX7_close_90 : decode cX7_close 90 = .ok (.ifCond .eq 9, 3) := by decide +kernel
theorem dX7_close_93 : decode cX7_close 93 = .ok (.aload_n 0, 1) := by decide +kernel
theorem dX7_close_94 : decode cX7_close 94 = .ok (.iload 4, 2) := by decide +kernel
theorem dX7_close_96 : decode cX7_close 96 = .ok (.invokevirtual 152, 3) := by decide +kernel
theorem dX7_close_99 : decode cX7_close 99 = .ok (.iinc 4 (-1), 3) := by decide +kernel
theorem dX7_close_102 : decode cX7_close 102 = .ok (.goto (-34), 3) := by decide +kernel
theorem dX7_close_105 : decode cX7_close 105 = .ok (.aload_n 0, 1) := by decide +kernel
theorem dX7_close_106 : decode cX7_close 106 = .ok (.getfield 7, 3) := by decide +kernel
theorem dX7_close_109 : decode cX7_close 109 = .ok (.iload_n 1, 1) := by decide +kernel
theorem dX7_close_110 : decode cX7_close 110 = .ok (.iconst 0, 1) := by decide +kernel
theorem dX7_close_111 : decode cX7_close 111 = .ok (.iastore, 1) := by decide +kernel
theorem dX7_close_112 : decode cX7_close 112 = .ok (.aload_n 0, 1) := by decide +kernel
theorem dX7_close_113 : decode cX7_close 113 = .ok (.invokevirtual 155, 3) := by decide +kernel
theorem dX7_close_116 : decode cX7_close 116 = .ok (.pop, 1) := by decide +kernel
theorem dX7_close_117 : decode cX7_close 117 = .ok (.aload_n 0, 1) := by decide +kernel
theorem dX7_close_118 : decode cX7_close 118 = .ok (.invokevirtual 143, 3) := by decide +kernel
theorem dX7_close_121 : decode cX7_close 121 = .ok (.iload_n 3, 1) := by decide +kernel
theorem dX7_close_122 : decode cX7_close 122 = .ok (.ireturn, 1) := by decide +kernel
set_option maxRecDepth 20000 in
theorem ggX7_state_X7_isTab : GoodIn wsX7_state wsX7_isTab := goodIn_r _ [5, 6, 7, 4, 8] (by decide +kernel) (by decide +kernel)
set_option maxRecDepth 20000 in
theorem gX7_state_X7_isTab : GoodIn wsX7_state (va_wsS RX7 134 yX7_isTab wsX7_isTab) := goodIn_app (goodIn_of _ (by decide +kernel)) ggX7_state_X7_isTab
set_option maxRecDepth 20000 in
theorem ggX7_state_X7_fails : GoodIn wsX7_state wsX7_fails := goodIn_r _ [12, 13, 14, 15, 16, 17, 18, 19, 20, 21, 22, 23, 24, 25, 26, 27, 28, 29, 30, 31, 32, 33, 34, 35, 36, 37, 38, 39, 40, 41, 42, 43, 44, 45] (by decide +kernel) (by decide +kernel)
set_option maxRecDepth 20000 in
theorem gX7_state_X7_fails : GoodIn wsX7_state (wsV RX7 137 RX7 yX7_fails wsX7_fails) := goodIn_app (goodIn_of _ (by decide +kernel)) ggX7_state_X7_fails
theorem dX7_state_0 : decode cX7_state 0 = .ok (.aload_n 0, 1) := by decide +kernel
theorem dX7_state_1 : decode cX7_state 1 = .ok (.iload_n 1, 1) := by decide +kernel
theorem dX7_state_2 : decode cX7_state 2 = .ok (.invokestatic 134, 3) := by decide +kernel
theorem dX7_state_5 : decode cX7_state 5 = .ok (.ifCond .eq 7, 3) := by decide +kernel
theorem dX7_state_8 : decode cX7_state 8 = .ok (.iconst 0, 1) := by decide +kernel
theorem dX7_state_9 : decode cX7_state 9 = .ok (.goto 4, 3) := by decide +kernel
theorem dX7_state_12 : decode cX7_state 12 = .ok (.iconst 1, 1) := by decide +kernel
theorem dX7_state_13 : decode cX7_state 13 = .ok (.invokevirtual 137, 3) := by decide +kernel
theorem dX7_state_16 : decode cX7_state 16 = .ok (.ifCond .eq 7, 3) := by decide +kernel
theorem dX7_state_19 : decode cX7_state 19 = .ok (.iconst 0, 1) := by decide +kernel
theorem dX7_state_20 : decode cX7_state 20 = .ok (.goto 9, 3) := by decide +kernel
theorem dX7_state_23 : decode cX7_state 23 = .ok (.aload_n 0, 1) := by decide +kernel
theorem dX7_state_24 : decode cX7_state 24 = .ok (.getfield 7, 3) := by decide +kernel
theorem dX7_state_27 : decode cX7_state 27 = .ok (.iload_n 1, 1) := by decide +kernel
theorem dX7_state_28 : decode cX7_state 28 = .ok (.iaload, 1) := by decide +kernel
theorem dX7_state_29 : decode cX7_state 29 = .ok (.ireturn, 1) := by decide +kernel
theorem dX7_version_0 : decode cX7_version 0 = .ok (.aload_n 0, 1) := by decide +kernel
theorem dX7_version_1 : decode cX7_version 1 = .ok (.iconst 0, 1) := by decide +kernel
theorem dX7_version_2 : decode cX7_version 2 = .ok (.putfield 93, 3) := by decide +kernel
theorem dX7_version_5 : decode cX7_version 5 = .ok (.aload_n 0, 1) := by decide +kernel
theorem dX7_version_6 : decode cX7_version 6 = .ok (.getfield 120, 3) := by decide +kernel
theorem dX7_version_9 : decode cX7_version 9 = .ok (.ireturn, 1) := by decide +kernel
theorem dX7_upgrade_0 : decode cX7_upgrade 0 = .ok (.aload_n 0, 1) := by decide +kernel
theorem dX7_upgrade_1 : decode cX7_upgrade 1 = .ok (.iconst 0, 1) := by decide +kernel
theorem dX7_upgrade_2 : decode cX7_upgrade 2 = .ok (.putfield 93, 3) := by decide +kernel
theorem dX7_upgrade_5 : decode cX7_upgrade 5 = .ok (.aload_n 0, 1) := by decide +kernel
theorem dX7_upgrade_6 : decode cX7_upgrade 6 = .ok (.getfield 19, 3) := by decide +kernel
theorem dX7_upgrade_9 : decode cX7_upgrade 9 = .ok (.ireturn, 1) := by decide +kernel
set_option maxRecDepth 20000 in
theorem ggX7_makeStore_X7_isTransaction : GoodIn wsX7_makeStore wsX7_isTransaction := goodIn_r _ [9, 10, 11, 12, 8, 13, 19, 20, 21, 22, 23, 24, 25, 26, 27, 28, 29, 30, 31, 32, 33, 34, 35, 36, 37, 38, 39, 40, 41, 42, 43, 44, 45, 46, 47, 48, 49, 50] (by decide +kernel) (by decide +kernel)
set_option maxRecDepth 20000 in
theorem gX7_makeStore_X7_isTransaction : GoodIn wsX7_makeStore (wsV RX7 158 RX7 yX7_isTransaction wsX7_isTransaction) := goodIn_app (goodIn_of _ (by decide +kernel)) ggX7_makeStore_X7_isTransaction
set_option maxRecDepth 20000 in
theorem ggX7_makeStore_X7_isIn : GoodIn wsX7_makeStore wsX7_isIn := goodIn_r _ [13] (by decide +kernel) (by decide +kernel)
set_option maxRecDepth 20000 in
theorem gX7_makeStore_X7_isIn : GoodIn wsX7_makeStore (va_wsS RX7 96 yX7_isIn wsX7_isIn) := goodIn_app (goodIn_of _ (by decide +kernel)) ggX7_makeStore_X7_isIn
set_option maxRecDepth 20000 in
theorem ggX7_makeStore_X7_fails : GoodIn wsX7_makeStore wsX7_fails := goodIn_r _ [17, 18, 19, 20, 21, 22, 23, 24, 25, 26, 27, 28, 29, 30, 31, 32, 33, 34, 35, 36, 37, 38, 39, 40, 41, 42, 43, 44, 45, 46, 47, 48, 49, 50] (by decide +kernel) (by decide +kernel)
set_option maxRecDepth 20000 in
theorem gX7_makeStore_X7_fails : GoodIn wsX7_makeStore (wsV RX7 137 RX7 yX7_fails wsX7_fails) := goodIn_app (goodIn_of _ (by decide +kernel)) ggX7_makeStore_X7_fails
theorem dX7_makeStore_0 : decode cX7_makeStore 0 = .ok (.aload_n 0, 1) := by decide +kernel
theorem dX7_makeStore_1 : decode cX7_makeStore 1 = .ok (.iload_n 1, 1) := by decide +kernel
theorem dX7_makeStore_2 : decode cX7_makeStore 2 = .ok (.invokevirtual 158, 3) := by decide +kernel
theorem dX7_makeStore_5 : decode cX7_makeStore 5 = .ok (.ifCond .eq 16, 3) := by decide +kernel
theorem dX7_makeStore_8 : decode cX7_makeStore 8 = .ok (.iload_n 2, 1) := by decide +kernel
theorem dX7_makeStore_9 : decode cX7_makeStore 9 = .ok (.iconst 0, 1) := by decide +kernel
theorem dX7_makeStore_10 : decode cX7_makeStore 10 = .ok (.iconst 2, 1) := by decide +kernel
theorem dX7_makeStore_11 : decode cX7_makeStore 11 = .ok (.invokestatic 96, 3) := by decide +kernel
theorem dX7_makeStore_14 : decode cX7_makeStore 14 = .ok (.ifCond .eq 7, 3) := by decide +kernel
theorem dX7_makeStore_17 : decode cX7_makeStore 17 = .ok (.iconst 1, 1) := by decide +kernel
theorem dX7_makeStore_18 : decode cX7_makeStore 18 = .ok (.goto 4, 3) := by decide +kernel
theorem dX7_makeStore_21 : decode cX7_makeStore 21 = .ok (.iconst 0, 1) := by decide +kernel
theorem dX7_makeStore_22 : decode cX7_makeStore 22 = .ok (.istore_n 3, 1) := by decide +kernel
theorem dX7_makeStore_23 : decode cX7_makeStore 23 = .ok (.aload_n 0, 1) := by decide +kernel
theorem dX7_makeStore_24 : decode cX7_makeStore 24 = .ok (.iload_n 3, 1) := by decide +kernel
theorem dX7_makeStore_25 : decode cX7_makeStore 25 = .ok (.ifCond .ne 7, 3) := by decide +kernel
theorem dX7_makeStore_28 : decode cX7_makeStore 28 = .ok (.iconst 1, 1) := by decide +kernel
theorem dX7_makeStore_29 : decode cX7_makeStore 29 = .ok (.goto 25, 3) := by decide +kernel
theorem dX7_makeStore_32 : decode cX7_makeStore 32 = .ok (.iload_n 1, 1) := by decide +kernel
theorem dX7_makeStore_33 : decode cX7_makeStore 33 = .ok (.aload_n 0, 1) := by decide +kernel
theorem dX7_makeStore_34 : decode cX7_makeStore 34 = .ok (.getfield 19, 3) := by decide +kernel
theorem dX7_makeStore_37 : decode cX7_makeStore 37 = .ok (.if_icmp .ne 12, 3) := by decide +kernel
theorem dX7_makeStore_40 : decode cX7_makeStore 40 = .ok (.aload_n 0, 1) := by decide +kernel
theorem dX7_makeStore_41 : decode cX7_makeStore 41 = .ok (.getfield 23, 3) := by decide +kernel
theorem dX7_makeStore_44 : decode cX7_makeStore 44 = .ok (.iload_n 2, 1) := by decide +kernel
theorem dX7_makeStore_45 : decode cX7_makeStore 45 = .ok (.baload, 1) := by decide +kernel
theorem dX7_makeStore_46 : decode cX7_makeStore 46 = .ok (.ifCond .eq 7, 3) := by decide +kernel
theorem dX7_makeStore_49 : decode cX7_makeStore 49 = .ok (.iconst 2, 1) := by decide +kernel
theorem dX7_makeStore_50 : decode cX7_makeStore 50 = .ok (.goto 4, 3) := by decide +kernel
theorem dX7_makeStore_53 : decode cX7_makeStore 53 = .ok (.iconst 0, 1) := by decide +kernel
theorem dX7_makeStore_54 : decode cX7_makeStore 54 = .ok (.invokevirtual 137, 3) := by decide +kernel
theorem dX7_makeStore_57 : decode cX7_makeStore 57 = .ok (.ifCond .ne 37, 3) := by decide +kernel
theorem dX7_makeStore_60 : decode cX7_makeStore 60 = .ok (.aload_n 0, 1) := by decide +kernel
theorem dX7_makeStore_61 : decode cX7_makeStore 61 = .ok (.getfield 23, 3) := by decide +kernel
theorem dX7_makeStore_64 : decode cX7_makeStore 64 = .ok (.iload_n 2, 1) := by decide +kernel
theorem dX7_makeStore_65 : decode cX7_makeStore 65 = .ok (.iconst 1, 1) := by decide +kernel
theorem dX7_makeStore_66 : decode cX7_makeStore 66 = .ok (.bastore, 1) := by decide +kernel
theorem dX7_makeStore_67 : decode cX7_makeStore 67 = .ok (.aload_n 0, 1) := by decide +kernel
theorem dX7_makeStore_68 : decode cX7_makeStore 68 = .ok (.getfield 30, 3) := by decide +kernel
theorem dX7_makeStore_71 : decode cX7_makeStore 71 = .ok (.iload_n 2, 1) := by decide +kernel
theorem dX7_makeStore_72 : decode cX7_makeStore 72 = .ok (.iconst 0, 1) := by decide +kernel
theorem dX7_makeStore_73 : decode cX7_makeStore 73 = .ok (.iastore, 1) := by decide +kernel
theorem dX7_makeStore_74 : decode cX7_makeStore 74 = .ok (.aload_n 0, 1) := by decide +kernel
theorem dX7_makeStore_75 : decode cX7_makeStore 75 = .ok (.getfield 27, 3) := by decide +kernel
theorem dX7_makeStore_78 : decode cX7_makeStore 78 = .ok (.iconst 2, 1) := by decide +kernel
theorem dX7_makeStore_79 : decode cX7_makeStore 79 = .ok (.iload_n 2, 1) := by decide +kernel
theorem dX7_makeStore_80 : decode cX7_makeStore 80 = .ok (.imul, 1) := by decide +kernel
theorem dX7_makeStore_81 : decode cX7_makeStore 81 = .ok (.iconst 0, 1) := by decide +kernel
theorem dX7_makeStore_82 : decode cX7_makeStore 82 = .ok (.iastore, 1) := by decide +kernel
theorem dX7_makeStore_83 : decode cX7_makeStore 83 = .ok (.aload_n 0, 1) := by decide +kernel
theorem dX7_makeStore_84 : decode cX7_makeStore 84 = .ok (.getfield 27, 3) := by decide +kernel
theorem dX7_makeStore_87 : decode cX7_makeStore 87 = .ok (.iconst 2, 1) := by decide +kernel
theorem dX7_makeStore_88 : decode cX7_makeStore 88 = .ok (.iload_n 2, 1) := by decide +kernel
theorem dX7_makeStore_89 : decode cX7_makeStore 89 = .ok (.imul, 1) := by decide +kernel
theorem dX7_makeStore_90 : decode cX7_makeStore 90 = .ok (.iconst 1, 1) := by decide +kernel
theorem dX7_makeStore_91 : decode cX7_makeStore 91 = .ok (.iadd, 1) := by decide +kernel
theorem dX7_makeStore_92 : decode cX7_makeStore 92 = .ok (.iconst 0, 1) := by decide +kernel
theorem dX7_makeStore_93 : decode cX7_makeStore 93 = .ok (.iastore, 1) := by decide +kernel
theorem dX7_makeStore_94 : decode cX7_makeStore 94 = .ok (.return_, 1) := by decide +kernel
set_option maxRecDepth 20000 in
theorem ggX7_deleteStore_X7_isTransaction : GoodIn wsX7_deleteStore wsX7_isTransaction := goodIn_r _ [8, 9, 10, 11, 7, 12, 22, 23, 24, 25, 26, 27, 28, 29, 30, 31, 32, 33, 34, 35, 36, 37, 38, 39, 40, 41, 42, 43, 44, 45, 46, 47, 48, 49, 50, 51, 52, 53] (by decide +kernel) (by decide +kernel)
set_option maxRecDepth 20000 in
theorem gX7_deleteStore_X7_isTransaction : GoodIn wsX7_deleteStore (wsV RX7 158 RX7 yX7_isTransaction wsX7_isTransaction) := goodIn_app (goodIn_of _ (by decide +kernel)) ggX7_deleteStore_X7_isTransaction
set_option maxRecDepth 20000 in
theorem ggX7_deleteStore_X7_isStore : GoodIn wsX7_deleteStore wsX7_isStore := goodIn_r _ [16, 3, 10, 11, 7, 12, 22, 23, 24, 25, 26, 27, 28, 29, 30, 31, 32, 33, 34, 35, 36, 37, 38, 39, 40, 41, 42, 43, 44, 45, 46, 47, 48, 49, 50, 51, 52, 53] (by decide +kernel) (by decide +kernel)
set_option maxRecDepth 20000 in
theorem gX7_deleteStore_X7_isStore : GoodIn wsX7_deleteStore (wsV RX7 161 RX7 yX7_isStore wsX7_isStore) := goodIn_app (goodIn_of _ (by decide +kernel)) ggX7_deleteStore_X7_isStore
set_option maxRecDepth 20000 in
theorem ggX7_deleteStore_X7_fails : GoodIn wsX7_deleteStore wsX7_fails := goodIn_r _ [20, 21, 22, 23, 24, 25, 26, 27, 28, 29, 30, 31, 32, 33, 34, 35, 36, 37, 38, 39, 40, 41, 42, 43, 44, 45, 46, 47, 48, 49, 50, 51, 52, 53] (by decide +kernel) (by decide +kernel)
set_option maxRecDepth 20000 in
theorem gX7_deleteStore_X7_fails : GoodIn wsX7_deleteStore (wsV RX7 137 RX7 yX7_fails wsX7_fails) := goodIn_app (goodIn_of _ (by decide +kernel)) ggX7_deleteStore_X7_fails
theorem dX7_deleteStore_0 : decode cX7_deleteStore 0 = .ok (.aload_n 0, 1) := by decide +kernel
theorem dX7_deleteStore_1 : decode cX7_deleteStore 1 = .ok (.iload_n 1, 1) := by decide +kernel
theorem dX7_deleteStore_2 : decode cX7_deleteStore 2 = .ok (.invokevirtual 158, 3) := by decide +kernel
theorem dX7_deleteStore_5 : decode cX7_deleteStore 5 = .ok (.ifCond .eq 15, 3) := by decide +kernel
theorem dX7_deleteStore_8 : decode cX7_deleteStore 8 = .ok (.aload_n 0, 1) := by decide +kernel
theorem dX7_deleteStore_9 : decode cX7_deleteStore 9 = .ok (.iload_n 2, 1) := by decide +kernel
theorem dX7_deleteStore_10 : decode cX7_deleteStore 10 = .ok (.invokevirtual 161, 3) := by decide +kernel
theorem dX7_deleteStore_13 : decode cX7_deleteStore 13 = .ok (.ifCond .eq 7, 3) := by decide +kernel
theorem dX7_deleteStore_16 : decode cX7_deleteStore 16 = .ok (.iconst 1, 1) := by decide +kernel
theorem dX7_deleteStore_17 : decode cX7_deleteStore 17 = .ok (.goto 4, 3) := by decide +kernel
theorem dX7_deleteStore_20 : decode cX7_deleteStore 20 = .ok (.iconst 0, 1) := by decide +kernel
theorem dX7_deleteStore_21 : decode cX7_deleteStore 21 = .ok (.istore_n 3, 1) := by decide +kernel
theorem dX7_deleteStore_22 : decode cX7_deleteStore 22 = .ok (.aload_n 0, 1) := by decide +kernel
theorem dX7_deleteStore_23 : decode cX7_deleteStore 23 = .ok (.iload_n 3, 1) := by decide +kernel
theorem dX7_deleteStore_24 : decode cX7_deleteStore 24 = .ok (.ifCond .ne 7, 3) := by decide +kernel
theorem dX7_deleteStore_27 : decode cX7_deleteStore 27 = .ok (.iconst 1, 1) := by decide +kernel
theorem dX7_deleteStore_28 : decode cX7_deleteStore 28 = .ok (.goto 16, 3) := by decide +kernel
theorem dX7_deleteStore_31 : decode cX7_deleteStore 31 = .ok (.iload_n 1, 1) := by decide +kernel
theorem dX7_deleteStore_32 : decode cX7_deleteStore 32 = .ok (.aload_n 0, 1) := by decide +kernel
theorem dX7_deleteStore_33 : decode cX7_deleteStore 33 = .ok (.getfield 19, 3) := by decide +kernel
theorem dX7_deleteStore_36 : decode cX7_deleteStore 36 = .ok (.if_icmp .eq 7, 3) := by decide +kernel
theorem dX7_deleteStore_39 : decode cX7_deleteStore 39 = .ok (.iconst 2, 1) := by decide +kernel
theorem dX7_deleteStore_40 : decode cX7_deleteStore 40 = .ok (.goto 4, 3) := by decide +kernel
theorem dX7_deleteStore_43 : decode cX7_deleteStore 43 = .ok (.iconst 0, 1) := by decide +kernel
theorem dX7_deleteStore_44 : decode cX7_deleteStore 44 = .ok (.invokevirtual 137, 3) := by decide +kernel
theorem dX7_deleteStore_47 : decode cX7_deleteStore 47 = .ok (.ifCond .eq 5, 3) := by decide +kernel
theorem dX7_deleteStore_50 : decode cX7_deleteStore 50 = .ok (.iconst 0, 1) := by decide +kernel
theorem dX7_deleteStore_51 : decode cX7_deleteStore 51 = .ok (.ireturn, 1) := by decide +kernel
theorem dX7_deleteStore_52 : decode cX7_deleteStore 52 = .ok (.aload_n 0, 1) := by decide +kernel
theorem dX7_deleteStore_53 : decode cX7_deleteStore 53 = .ok (.getfield 30, 3) := by decide +kernel
theorem dX7_deleteStore_56 : decode cX7_deleteStore 56 = .ok (.iload_n 2, 1) := by decide +kernel
theorem dX7_deleteStore_57 : decode cX7_deleteStore 57 = .ok (.iaload, 1) := by decide +kernel
theorem dX7_deleteStore_58 : decode cX7_deleteStore 58 = .ok (.istore 4, 2) := by decide +kernel
theorem dX7_deleteStore_60 : decode cX7_deleteStore 60 = .ok (.aload_n 0, 1) := by decide +kernel
theorem dX7_deleteStore_61 : decode cX7_deleteStore 61 = .ok (.getfield 23, 3) := by decide +kernel
theorem dX7_deleteStore_64 : decode cX7_deleteStore 64 = .ok (.iload_n 2, 1) := by decide +kernel
theorem dX7_deleteStore_65 : decode cX7_deleteStore 65 = .ok (.iconst 0, 1) := by decide +kernel
theorem dX7_deleteStore_66 : decode cX7_deleteStore 66 = .ok (.bastore, 1) := by decide +kernel
theorem dX7_deleteStore_67 : decode cX7_deleteStore 67 = .ok (.aload_n 0, 1) := by decide +kernel
theorem dX7_deleteStore_68 : decode cX7_deleteStore 68 = .ok (.getfield 30, 3) := by decide +kernel
theorem dX7_deleteStore_71 : decode cX7_deleteStore 71 = .ok (.iload_n 2, 1) := by decide +kernel
theorem dX7_deleteStore_72 : decode cX7_deleteStore 72 = .ok (.iconst 0, 1) := by decide +kernel
theorem dX7_deleteStore_73 : decode cX7_deleteStore 73 = .ok (.iastore, 1) := by decide +kernel
theorem dX7_deleteStore_74 : decode cX7_deleteStore 74 = .ok (.iload 4, 2) := by decide +kernel
theorem dX7_deleteStore_76 : decode cX7_deleteStore 76 = .ok (.ireturn, 1) := by decide +kernel
theorem dX7_hasDoubles_0 : decode cX7_hasDoubles 0 = .ok (.iconst 0, 1) := by decide +kernel
theorem dX7_hasDoubles_1 : decode cX7_hasDoubles 1 = .ok (.istore_n 3, 1) := by decide +kernel
theorem dX7_hasDoubles_2 : decode cX7_hasDoubles 2 = .ok (.bipush 40, 2) := by decide +kernel
theorem dX7_hasDoubles_4 : decode cX7_hasDoubles 4 = .ok (.iload_n 1, 1) := by decide +kernel
theorem dX7_hasDoubles_5 : decode cX7_hasDoubles 5 = .ok (.imul, 1) := by decide +kernel
theorem dX7_hasDoubles_6 : decode cX7_hasDoubles 6 = .ok (.istore 4, 2) := by decide +kernel
theorem dX7_hasDoubles_8 : decode cX7_hasDoubles 8 = .ok (.iload 4, 2) := by decide +kernel
theorem dX7_hasDoubles_10 : decode cX7_hasDoubles 10 = .ok (.bipush 40, 2) := by decide +kernel
theorem dX7_hasDoubles_12 : decode cX7_hasDoubles 12 = .ok (.iload_n 1, 1) := by decide +kernel
theorem dX7_hasDoubles_13 : decode cX7_hasDoubles 13 = .ok (.imul, 1) := by decide +kernel
theorem dX7_hasDoubles_14 : decode cX7_hasDoubles 14 = .ok (.aload_n 0, 1) := by decide +kernel
theorem dX7_hasDoubles_15 : decode cX7_hasDoubles 15 = .ok (.getfield 30, 3) := by decide +kernel
theorem dX7_hasDoubles_18 : decode cX7_hasDoubles 18 = .ok (.iload_n 1, 1) := by decide +kernel
theorem dX7_hasDoubles_19 : decode cX7_hasDoubles 19 = .ok (.iaload, 1) := by decide +kernel
theorem dX7_hasDoubles_20 : decode cX7_hasDoubles 20 = .ok (.iadd, 1) := by decide +kernel
theorem dX7_hasDoubles_21 : decode cX7_hasDoubles 21 = .ok (.if_icmp .ge 78, 3) := by decide +kernel
theorem dX7_hasDoubles_24 : decode cX7_hasDoubles 24 = .ok (.bipush 40, 2) := by decide +kernel
theorem dX7_hasDoubles_26 : decode cX7_hasDoubles 26 = .ok (.iload_n 1, 1) := by decide +kernel
theorem dX7_hasDoubles_27 : decode cX7_hasDoubles 27 = .ok (.imul, 1) := by decide +kernel
theorem dX7_hasDoubles_28 : decode cX7_hasDoubles 28 = .ok (.istore 5, 2) := by decide +kernel
theorem dX7_hasDoubles_30 : decode cX7_hasDoubles 30 = .ok (.iload 5, 2) := by decide +kernel
theorem dX7_hasDoubles_32 : decode cX7_hasDoubles 32 = .ok (.iload 4, 2) := by decide +kernel
theorem dX7_hasDoubles_34 : decode cX7_hasDoubles 34 = .ok (.if_icmp .ge 59, 3) := by decide +kernel
theorem dX7_hasDoubles_37 : decode cX7_hasDoubles 37 = .ok (.iload_n 3, 1) := by decide +kernel
theorem dX7_hasDoubles_38 : decode cX7_hasDoubles 38 = .ok (.ifCond .ne 43, 3) := by decide +kernel
theorem dX7_hasDoubles_41 : decode cX7_hasDoubles 41 = .ok (.aload_n 0, 1) := by decide +kernel
theorem dX7_hasDoubles_42 : decode cX7_hasDoubles 42 = .ok (.getfield 39, 3) := by decide +kernel
theorem dX7_hasDoubles_45 : decode cX7_hasDoubles 45 = .ok (.iconst 2, 1) := by decide +kernel
theorem dX7_hasDoubles_46 : decode cX7_hasDoubles 46 = .ok (.iload 4, 2) := by decide +kernel
theorem dX7_hasDoubles_48 : decode cX7_hasDoubles 48 = .ok (.imul, 1) := by decide +kernel
theorem dX7_hasDoubles_49 : decode cX7_hasDoubles 49 = .ok (.iload_n 2, 1) := by decide +kernel
theorem dX7_hasDoubles_50 : decode cX7_hasDoubles 50 = .ok (.iadd, 1) := by decide +kernel
theorem dX7_hasDoubles_51 : decode cX7_hasDoubles 51 = .ok (.iaload, 1) := by decide +kernel
theorem dX7_hasDoubles_52 : decode cX7_hasDoubles 52 = .ok (.iconst (-1), 1) := by decide +kernel
theorem dX7_hasDoubles_53 : decode cX7_hasDoubles 53 = .ok (.if_icmp .eq 32, 3) := by decide +kernel
theorem dX7_hasDoubles_56 : decode cX7_hasDoubles 56 = .ok (.aload_n 0, 1) := by decide +kernel
theorem dX7_hasDoubles_57 : decode cX7_hasDoubles 57 = .ok (.getfield 39, 3) := by decide +kernel
theorem dX7_hasDoubles_60 : decode cX7_hasDoubles 60 = .ok (.iconst 2, 1) := by decide +kernel
theorem dX7_hasDoubles_61 : decode cX7_hasDoubles 61 = .ok (.iload 4, 2) := by decide +kernel
theorem dX7_hasDoubles_63 : decode cX7_hasDoubles 63 = .ok (.imul, 1) := by decide +kernel
theorem dX7_hasDoubles_64 : decode cX7_hasDoubles 64 = .ok (.iload_n 2, 1) := by decide +kernel
theorem dX7_hasDoubles_65 : decode cX7_hasDoubles 65 = .ok (.iadd, 1) := by decide +kernel
theorem dX7_hasDoubles_66 : decode cX7_hasDoubles 66 = .ok (.iaload, 1) := by decide +kernel
theorem dX7_hasDoubles_67 : decode cX7_hasDoubles 67 = .ok (.aload_n 0, 1) := by decide +kernel
theorem dX7_hasDoubles_68 : decode cX7_hasDoubles 68 = .ok (.getfield 39, 3) := by decide +kernel
theorem dX7_hasDoubles_71 : decode cX7_hasDoubles 71 = .ok (.iconst 2, 1) := by decide +kernel
theorem dX7_hasDoubles_72 : decode cX7_hasDoubles 72 = .ok (.iload 5, 2) := by decide +kernel
theorem dX7_hasDoubles_74 : decode cX7_hasDoubles 74 = .ok (.imul, 1) := by decide +kernel
theorem dX7_hasDoubles_75 : decode cX7_hasDoubles 75 = .ok (.iload_n 2, 1) := by decide +kernel
theorem dX7_hasDoubles_76 : decode cX7_hasDoubles 76 = .ok (.iadd, 1) := by decide +kernel
theorem dX7_hasDoubles_77 : decode cX7_hasDoubles 77 = .ok (.iaload, 1) := by decide +kernel
theorem dX7_hasDoubles_78 : decode cX7_hasDoubles 78 = .ok (.if_icmp .ne 7, 3) := by decide +kernel
theorem dX7_hasDoubles_81 : decode cX7_hasDoubles 81 = .ok (.iconst 1, 1) := by decide +kernel
theorem dX7_hasDoubles_82 : decode cX7_hasDoubles 82 = .ok (.goto 4, 3) := by decide +kernel
theorem dX7_hasDoubles_85 : decode cX7_hasDoubles 85 = .ok (.iconst 0, 1) := by decide +kernel
theorem dX7_hasDoubles_86 : decode cX7_hasDoubles 86 = .ok (.istore_n 3, 1) := by decide +kernel
theorem dX7_hasDoubles_87 : decode cX7_hasDoubles 87 = .ok (.iinc 5 1, 3) := by decide +kernel
theorem dX7_hasDoubles_90 : decode cX7_hasDoubles 90 = .ok (.goto (-60), 3) := by decide +kernel
theorem dX7_hasDoubles_93 : decode cX7_hasDoubles 93 = .ok (.iinc 4 1, 3) := by decide +kernel
theorem dX7_hasDoubles_96 : decode cX7_hasDoubles 96 = .ok (.goto (-88), 3) := by decide +kernel
theorem dX7_hasDoubles_99 : decode cX7_hasDoubles 99 = .ok (.iload_n 3, 1) := by decide +kernel
theorem dX7_hasDoubles_100 : decode cX7_hasDoubles 100 = .ok (.ireturn, 1) := by decide +kernel
set_option maxRecDepth 20000 in
theorem ggX7_makeIndex_X7_isTransaction : GoodIn wsX7_makeIndex wsX7_isTransaction := goodIn_r _ [7, 8, 9, 10, 6, 11, 28, 29, 30, 31, 32, 33, 34, 35, 36, 37, 38, 39, 40, 41, 42, 43, 44, 45, 46, 47, 48, 49, 50, 51, 52, 53, 54, 55, 56, 57, 58, 59] (by decide +kernel) (by decide +kernel)
set_option maxRecDepth 20000 in
theorem gX7_makeIndex_X7_isTransaction : GoodIn wsX7_makeIndex (wsV RX7 158 RX7 yX7_isTransaction wsX7_isTransaction) := goodIn_app (goodIn_of _ (by decide +kernel)) ggX7_makeIndex_X7_isTransaction
set_option maxRecDepth 20000 in
theorem ggX7_makeIndex_X7_isStore : GoodIn wsX7_makeIndex wsX7_isStore := goodIn_r _ [15, 16, 9, 10, 6, 11, 28, 29, 30, 31, 32, 33, 34, 35, 36, 37, 38, 39, 40, 41, 42, 43, 44, 45, 46, 47, 48, 49, 50, 51, 52, 53, 54, 55, 56, 57, 58, 59] (by decide +kernel) (by decide +kernel)
set_option maxRecDepth 20000 in
theorem gX7_makeIndex_X7_isStore : GoodIn wsX7_makeIndex (wsV RX7 161 RX7 yX7_isStore wsX7_isStore) := goodIn_app (goodIn_of _ (by decide +kernel)) ggX7_makeIndex_X7_isStore
set_option maxRecDepth 20000 in
theorem ggX7_makeIndex_X7_isIn : GoodIn wsX7_makeIndex wsX7_isIn := goodIn_r _ [11] (by decide +kernel) (by decide +kernel)
set_option maxRecDepth 20000 in
theorem gX7_makeIndex_X7_isIn : GoodIn wsX7_makeIndex (va_wsS RX7 96 yX7_isIn wsX7_isIn) := goodIn_app (goodIn_of _ (by decide +kernel)) ggX7_makeIndex_X7_isIn
set_option maxRecDepth 20000 in
theorem ggX7_makeIndex_X7_hasDoubles : GoodIn wsX7_makeIndex wsX7_hasDoubles := goodIn_r _ [20, 21, 22, 28, 29, 30, 31, 32, 33, 34, 35, 36, 37, 38, 39, 40, 41, 42, 43, 44, 45, 46, 47, 48, 49, 50, 51, 52, 53, 54, 55, 56, 57, 58, 59] (by decide +kernel) (by decide +kernel)
set_option maxRecDepth 20000 in
theorem gX7_makeIndex_X7_hasDoubles : GoodIn wsX7_makeIndex (wsV RX7 164 RX7 yX7_hasDoubles wsX7_hasDoubles) := goodIn_app (goodIn_of _ (by decide +kernel)) ggX7_makeIndex_X7_hasDoubles
set_option maxRecDepth 20000 in
theorem ggX7_makeIndex_X7_fails : GoodIn wsX7_makeIndex wsX7_fails := goodIn_r _ [26, 27, 28, 29, 30, 31, 32, 33, 34, 35, 36, 37, 38, 39, 40, 41, 42, 43, 44, 45, 46, 47, 48, 49, 50, 51, 52, 53, 54, 55, 56, 57, 58, 59] (by decide +kernel) (by decide +kernel)
set_option maxRecDepth 20000 in
theorem gX7_makeIndex_X7_fails : GoodIn wsX7_makeIndex (wsV RX7 137 RX7 yX7_fails wsX7_fails) := goodIn_app (goodIn_of _ (by decide +kernel)) ggX7_makeIndex_X7_fails
theorem dX7_makeIndex_0 : decode cX7_makeIndex 0 = .ok (.aload_n 0, 1) := by decide +kernel
theorem dX7_makeIndex_1 : decode cX7_makeIndex 1 = .ok (.iload_n 1, 1) := by decide +kernel
theorem dX7_makeIndex_2 : decode cX7_makeIndex 2 = .ok (.invokevirtual 158, 3) := by decide +kernel
theorem dX7_makeIndex_5 : decode cX7_makeIndex 5 = .ok (.ifCond .eq 24, 3) := by decide +kernel
theorem dX7_makeIndex_8 : decode cX7_makeIndex 8 = .ok (.aload_n 0, 1) := by decide +kernel
theorem dX7_makeIndex_9 : decode cX7_makeIndex 9 = .ok (.iload_n 2, 1) := by decide +kernel
theorem dX7_makeIndex_10 : decode cX7_makeIndex 10 = .ok (.invokevirtual 161, 3) := by decide +kernel
theorem dX7_makeIndex_13 : decode cX7_makeIndex 13 = .ok (.ifCond .eq 16, 3) := by decide +kernel
theorem dX7_makeIndex_16 : decode cX7_makeIndex 16 = .ok (.iload_n 3, 1) := by decide +kernel
theorem dX7_makeIndex_17 : decode cX7_makeIndex 17 = .ok (.iconst 0, 1) := by decide +kernel
theorem dX7_makeIndex_18 : decode cX7_makeIndex 18 = .ok (.iconst 1, 1) := by decide +kernel
theorem dX7_makeIndex_19 : decode cX7_makeIndex 19 = .ok (.invokestatic 96, 3) := by decide +kernel
theorem dX7_makeIndex_22 : decode cX7_makeIndex 22 = .ok (.ifCond .eq 7, 3) := by decide +kernel
theorem dX7_makeIndex_25 : decode cX7_makeIndex 25 = .ok (.iconst 1, 1) := by decide +kernel
theorem dX7_makeIndex_26 : decode cX7_makeIndex 26 = .ok (.goto 4, 3) := by decide +kernel
theorem dX7_makeIndex_29 : decode cX7_makeIndex 29 = .ok (.iconst 0, 1) := by decide +kernel
theorem dX7_makeIndex_30 : decode cX7_makeIndex 30 = .ok (.istore 5, 2) := by decide +kernel
theorem dX7_makeIndex_32 : decode cX7_makeIndex 32 = .ok (.iload 5, 2) := by decide +kernel
theorem dX7_makeIndex_34 : decode cX7_makeIndex 34 = .ok (.ifCond .eq 42, 3) := by decide +kernel
theorem dX7_makeIndex_37 : decode cX7_makeIndex 37 = .ok (.iload_n 1, 1) := by decide +kernel
theorem dX7_makeIndex_38 : decode cX7_makeIndex 38 = .ok (.aload_n 0, 1) := by decide +kernel
theorem dX7_makeIndex_39 : decode cX7_makeIndex 39 = .ok (.getfield 19, 3) := by decide +kernel
theorem dX7_makeIndex_42 : decode cX7_makeIndex 42 = .ok (.if_icmp .ne 34, 3) := by decide +kernel
theorem dX7_makeIndex_45 : decode cX7_makeIndex 45 = .ok (.aload_n 0, 1) := by decide +kernel
theorem dX7_makeIndex_46 : decode cX7_makeIndex 46 = .ok (.getfield 27, 3) := by decide +kernel
theorem dX7_makeIndex_49 : decode cX7_makeIndex 49 = .ok (.iconst 2, 1) := by decide +kernel
theorem dX7_makeIndex_50 : decode cX7_makeIndex 50 = .ok (.iload_n 2, 1) := by decide +kernel
theorem dX7_makeIndex_51 : decode cX7_makeIndex 51 = .ok (.imul, 1) := by decide +kernel
theorem dX7_makeIndex_52 : decode cX7_makeIndex 52 = .ok (.iload_n 3, 1) := by decide +kernel
theorem dX7_makeIndex_53 : decode cX7_makeIndex 53 = .ok (.iadd, 1) := by decide +kernel
theorem dX7_makeIndex_54 : decode cX7_makeIndex 54 = .ok (.iaload, 1) := by decide +kernel
theorem dX7_makeIndex_55 : decode cX7_makeIndex 55 = .ok (.ifCond .ne 21, 3) := by decide +kernel
theorem dX7_makeIndex_58 : decode cX7_makeIndex 58 = .ok (.iload 4, 2) := by decide +kernel
theorem dX7_makeIndex_60 : decode cX7_makeIndex 60 = .ok (.ifCond .eq 12, 3) := by decide +kernel
theorem dX7_makeIndex_63 : decode cX7_makeIndex 63 = .ok (.aload_n 0, 1) := by decide +kernel
theorem dX7_makeIndex_64 : decode cX7_makeIndex 64 = .ok (.iload_n 2, 1) := by decide +kernel
theorem dX7_makeIndex_65 : decode cX7_makeIndex 65 = .ok (.iload_n 3, 1) := by decide +kernel
theorem dX7_makeIndex_66 : decode cX7_makeIndex 66 = .ok (.invokevirtual 164, 3) := by decide +kernel
theorem dX7_makeIndex_69 : decode cX7_makeIndex 69 = .ok (.ifCond .ne 7, 3) := by decide +kernel
theorem dX7_makeIndex_72 : decode cX7_makeIndex 72 = .ok (.iconst 1, 1) := by decide +kernel
theorem dX7_makeIndex_73 : decode cX7_makeIndex 73 = .ok (.goto 4, 3) := by decide +kernel
theorem dX7_makeIndex_76 : decode cX7_makeIndex 76 = .ok (.iconst 0, 1) := by decide +kernel
theorem dX7_makeIndex_77 : decode cX7_makeIndex 77 = .ok (.istore 6, 2) := by decide +kernel
theorem dX7_makeIndex_79 : decode cX7_makeIndex 79 = .ok (.aload_n 0, 1) := by decide +kernel
theorem dX7_makeIndex_80 : decode cX7_makeIndex 80 = .ok (.iload 5, 2) := by decide +kernel
theorem dX7_makeIndex_82 : decode cX7_makeIndex 82 = .ok (.ifCond .ne 7, 3) := by decide +kernel
theorem dX7_makeIndex_85 : decode cX7_makeIndex 85 = .ok (.iconst 1, 1) := by decide +kernel
theorem dX7_makeIndex_86 : decode cX7_makeIndex 86 = .ok (.goto 13, 3) := by decide +kernel
theorem dX7_makeIndex_89 : decode cX7_makeIndex 89 = .ok (.iload 6, 2) := by decide +kernel
theorem dX7_makeIndex_91 : decode cX7_makeIndex 91 = .ok (.ifCond .eq 7, 3) := by decide +kernel
theorem dX7_makeIndex_94 : decode cX7_makeIndex 94 = .ok (.iconst 0, 1) := by decide +kernel
theorem dX7_makeIndex_95 : decode cX7_makeIndex 95 = .ok (.goto 4, 3) := by decide +kernel
theorem dX7_makeIndex_98 : decode cX7_makeIndex 98 = .ok (.iconst 2, 1) := by decide +kernel
theorem dX7_makeIndex_99 : decode cX7_makeIndex 99 = .ok (.invokevirtual 137, 3) := by decide +kernel
theorem dX7_makeIndex_102 : decode cX7_makeIndex 102 = .ok (.ifCond .ne 23, 3) := by decide +kernel
theorem dX7_makeIndex_105 : decode cX7_makeIndex 105 = .ok (.aload_n 0, 1) := by decide +kernel
theorem dX7_makeIndex_106 : decode cX7_makeIndex 106 = .ok (.getfield 27, 3) := by decide +kernel
theorem dX7_makeIndex_109 : decode cX7_makeIndex 109 = .ok (.iconst 2, 1) := by decide +kernel
theorem dX7_makeIndex_110 : decode cX7_makeIndex 110 = .ok (.iload_n 2, 1) := by decide +kernel
theorem dX7_makeIndex_111 : decode cX7_makeIndex 111 = .ok (.imul, 1) := by decide +kernel
theorem dX7_makeIndex_112 : decode cX7_makeIndex 112 = .ok (.iload_n 3, 1) := by decide +kernel
theorem dX7_makeIndex_113 : decode cX7_makeIndex 113 = .ok (.iadd, 1) := by decide +kernel
theorem dX7_makeIndex_114 : decode cX7_makeIndex 114 = .ok (.iload 4, 2) := by decide +kernel
theorem dX7_makeIndex_116 : decode cX7_makeIndex 116 = .ok (.ifCond .eq 7, 3) := by decide +kernel
theorem dX7_makeIndex_119 : decode cX7_makeIndex 119 = .ok (.iconst 2, 1) := by decide +kernel
theorem dX7_makeIndex_120 : decode cX7_makeIndex 120 = .ok (.goto 4, 3) := by decide +kernel
theorem dX7_makeIndex_123 : decode cX7_makeIndex 123 = .ok (.iconst 1, 1) := by decide +kernel
theorem dX7_makeIndex_124 : decode cX7_makeIndex 124 = .ok (.iastore, 1) := by decide +kernel
theorem dX7_makeIndex_125 : decode cX7_makeIndex 125 = .ok (.return_, 1) := by decide +kernel
set_option maxRecDepth 20000 in
theorem ggX7_begin_X7_isIn : GoodIn wsX7_begin wsX7_isIn := goodIn_r _ [7] (by decide +kernel) (by decide +kernel)
set_option maxRecDepth 20000 in
theorem gX7_begin_X7_isIn : GoodIn wsX7_begin (va_wsS RX7 96 yX7_isIn wsX7_isIn) := goodIn_app (goodIn_of _ (by decide +kernel)) ggX7_begin_X7_isIn
set_option maxRecDepth 20000 in
theorem ggX7_begin_X7_isTab : GoodIn wsX7_begin wsX7_isTab := goodIn_r _ [10, 4, 5, 6, 7] (by decide +kernel) (by decide +kernel)
set_option maxRecDepth 20000 in
theorem gX7_begin_X7_isTab : GoodIn wsX7_begin (va_wsS RX7 134 yX7_isTab wsX7_isTab) := goodIn_app (goodIn_of _ (by decide +kernel)) ggX7_begin_X7_isTab
set_option maxRecDepth 20000 in
theorem ggX7_begin_X7_fails : GoodIn wsX7_begin wsX7_fails := goodIn_r _ [14, 15, 55, 56, 57, 58, 59, 60, 61, 62, 63, 64, 65, 66, 67, 68, 69, 70, 71, 72, 73, 74, 75, 76, 77, 78, 79, 80, 81, 82, 83, 84, 85, 86] (by decide +kernel) (by decide +kernel)
set_option maxRecDepth 20000 in
theorem gX7_begin_X7_fails : GoodIn wsX7_begin (wsV RX7 137 RX7 yX7_fails wsX7_fails) := goodIn_app (goodIn_of _ (by decide +kernel)) ggX7_begin_X7_fails
set_option maxRecDepth 20000 in
theorem ggX7_begin_X7_adds : GoodIn wsX7_begin wsX7_adds := goodIn_r _ [19, 20, 3, 21, 22, 23, 55, 56, 57, 58, 59, 60, 61, 62, 63, 64, 65, 66, 67, 68, 69, 70, 71, 72, 73, 74, 75, 76, 77, 78, 79, 80, 81, 82, 83, 84, 85, 86] (by decide +kernel) (by decide +kernel)
set_option maxRecDepth 20000 in
theorem gX7_begin_X7_adds : GoodIn wsX7_begin (wsV RX7 130 RX7 yX7_adds wsX7_adds) := goodIn_app (goodIn_of _ (by decide +kernel)) ggX7_begin_X7_adds
set_option maxRecDepth 20000 in
theorem ggX7_begin_X7_goesOn : GoodIn wsX7_begin wsX7_goesOn := goodIn_r _ [27, 3, 23, 28, 29, 30, 6, 31, 21, 22, 32, 33, 34, 35, 36, 37, 38, 39, 40, 41, 42, 43, 44, 1, 45, 46, 47, 48, 49, 50, 51, 52, 53, 54, 55, 56, 57, 58, 59, 60, 61, 62, 63, 64, 65, 66, 67, 68, 69, 70, 71, 72, 73, 74, 75, 76, 77, 78, 79, 80, 81, 82, 83, 84, 85, 86] (by decide +kernel) (by decide +kernel)
set_option maxRecDepth 20000 in
theorem gX7_begin_X7_goesOn : GoodIn wsX7_begin (wsV RX7 155 RX7 yX7_goesOn wsX7_goesOn) := goodIn_app (goodIn_of _ (by decide +kernel)) ggX7_begin_X7_goesOn
theorem dX7_begin_0 : decode cX7_begin 0 = .ok (.iload_n 2, 1) := by decide +kernel
theorem dX7_begin_1 : decode cX7_begin 1 = .ok (.iconst 1, 1) := by decide +kernel
theorem dX7_begin_2 : decode cX7_begin 2 = .ok (.bipush 7, 2) := by decide +kernel
theorem dX7_begin_4 : decode cX7_begin 4 = .ok (.invokestatic 96, 3) := by decide +kernel
theorem dX7_begin_7 : decode cX7_begin 7 = .ok (.istore 4, 2) := by decide +kernel
theorem dX7_begin_9 : decode cX7_begin 9 = .ok (.iload_n 1, 1) := by decide +kernel
theorem dX7_begin_10 : decode cX7_begin 10 = .ok (.invokestatic 134, 3) := by decide +kernel
theorem dX7_begin_13 : decode cX7_begin 13 = .ok (.istore 5, 2) := by decide +kernel
theorem dX7_begin_15 : decode cX7_begin 15 = .ok (.iconst 0, 1) := by decide +kernel
theorem dX7_begin_16 : decode cX7_begin 16 = .ok (.istore 6, 2) := by decide +kernel
theorem dX7_begin_18 : decode cX7_begin 18 = .ok (.iload 6, 2) := by decide +kernel
theorem dX7_begin_20 : decode cX7_begin 20 = .ok (.iconst 3, 1) := by decide +kernel
theorem dX7_begin_21 : decode cX7_begin 21 = .ok (.if_icmp .ge 45, 3) := by decide +kernel
theorem dX7_begin_24 : decode cX7_begin 24 = .ok (.iload 4, 2) := by decide +kernel
theorem dX7_begin_26 : decode cX7_begin 26 = .ok (.ifCond .eq 40, 3) := by decide +kernel
theorem dX7_begin_29 : decode cX7_begin 29 = .ok (.iload 5, 2) := by decide +kernel
theorem dX7_begin_31 : decode cX7_begin 31 = .ok (.ifCond .eq 26, 3) := by decide +kernel
theorem dX7_begin_34 : decode cX7_begin 34 = .ok (.iload_n 2, 1) := by decide +kernel
theorem dX7_begin_35 : decode cX7_begin 35 = .ok (.iload 6, 2) := by decide +kernel
theorem dX7_begin_37 : decode cX7_begin 37 = .ok (.ishr, 1) := by decide +kernel
theorem dX7_begin_38 : decode cX7_begin 38 = .ok (.iconst 1, 1) := by decide +kernel
theorem dX7_begin_39 : decode cX7_begin 39 = .ok (.iand, 1) := by decide +kernel
theorem dX7_begin_40 : decode cX7_begin 40 = .ok (.ifCond .eq 13, 3) := by decide +kernel
theorem dX7_begin_43 : decode cX7_begin 43 = .ok (.aload_n 0, 1) := by decide +kernel
theorem dX7_begin_44 : decode cX7_begin 44 = .ok (.getfield 23, 3) := by decide +kernel
theorem dX7_begin_47 : decode cX7_begin 47 = .ok (.iload 6, 2) := by decide +kernel
theorem dX7_begin_49 : decode cX7_begin 49 = .ok (.baload, 1) := by decide +kernel
theorem dX7_begin_50 : decode cX7_begin 50 = .ok (.ifCond .eq 7, 3) := by decide +kernel
theorem dX7_begin_53 : decode cX7_begin 53 = .ok (.iconst 1, 1) := by decide +kernel
theorem dX7_begin_54 : decode cX7_begin 54 = .ok (.goto 4, 3) := by decide +kernel
theorem dX7_begin_57 : decode cX7_begin 57 = .ok (.iconst 0, 1) := by decide +kernel
theorem dX7_begin_58 : decode cX7_begin 58 = .ok (.istore 5, 2) := by decide +kernel
theorem dX7_begin_60 : decode cX7_begin 60 = .ok (.iinc 6 1, 3) := by decide +kernel
theorem dX7_begin_63 : decode cX7_begin 63 = .ok (.goto (-45), 3) := by decide +kernel
theorem dX7_begin_66 : decode cX7_begin 66 = .ok (.aload_n 0, 1) := by decide +kernel
theorem dX7_begin_67 : decode cX7_begin 67 = .ok (.iload 5, 2) := by decide +kernel
theorem dX7_begin_69 : decode cX7_begin 69 = .ok (.ifCond .ne 7, 3) := by decide +kernel
theorem dX7_begin_72 : decode cX7_begin 72 = .ok (.iconst 1, 1) := by decide +kernel
theorem dX7_begin_73 : decode cX7_begin 73 = .ok (.goto 36, 3) := by decide +kernel
theorem dX7_begin_76 : decode cX7_begin 76 = .ok (.iload 4, 2) := by decide +kernel
theorem dX7_begin_78 : decode cX7_begin 78 = .ok (.ifCond .ne 7, 3) := by decide +kernel
theorem dX7_begin_81 : decode cX7_begin 81 = .ok (.iconst 2, 1) := by decide +kernel
theorem dX7_begin_82 : decode cX7_begin 82 = .ok (.goto 27, 3) := by decide +kernel
theorem dX7_begin_85 : decode cX7_begin 85 = .ok (.aload_n 0, 1) := by decide +kernel
theorem dX7_begin_86 : decode cX7_begin 86 = .ok (.getfield 7, 3) := by decide +kernel
theorem dX7_begin_89 : decode cX7_begin 89 = .ok (.iload_n 1, 1) := by decide +kernel
theorem dX7_begin_90 : decode cX7_begin 90 = .ok (.iaload, 1) := by decide +kernel
theorem dX7_begin_91 : decode cX7_begin 91 = .ok (.iconst 1, 1) := by decide +kernel
theorem dX7_begin_92 : decode cX7_begin 92 = .ok (.if_icmp .ne 12, 3) := by decide +kernel
theorem dX7_begin_95 : decode cX7_begin 95 = .ok (.aload_n 0, 1) := by decide +kernel
theorem dX7_begin_96 : decode cX7_begin 96 = .ok (.getfield 100, 3) := by decide +kernel
theorem dX7_begin_99 : decode cX7_begin 99 = .ok (.bipush 60, 2) := by decide +kernel
theorem dX7_begin_101 : decode cX7_begin 101 = .ok (.if_icmp .ne 7, 3) := by decide +kernel
theorem dX7_begin_104 : decode cX7_begin 104 = .ok (.iconst 3, 1) := by decide +kernel
theorem dX7_begin_105 : decode cX7_begin 105 = .ok (.goto 4, 3) := by decide +kernel
theorem dX7_begin_108 : decode cX7_begin 108 = .ok (.iconst 0, 1) := by decide +kernel
theorem dX7_begin_109 : decode cX7_begin 109 = .ok (.invokevirtual 137, 3) := by decide +kernel
theorem dX7_begin_112 : decode cX7_begin 112 = .ok (.ifCond .eq 5, 3) := by decide +kernel
theorem dX7_begin_115 : decode cX7_begin 115 = .ok (.iconst 0, 1) := by decide +kernel
theorem dX7_begin_116 : decode cX7_begin 116 = .ok (.ireturn, 1) := by decide +kernel
theorem dX7_begin_117 : decode cX7_begin 117 = .ok (.aload_n 0, 1) := by decide +kernel
theorem dX7_begin_118 : decode cX7_begin 118 = .ok (.iload_n 1, 1) := by decide +kernel
theorem dX7_begin_119 : decode cX7_begin 119 = .ok (.iload_n 2, 1) := by decide +kernel
theorem dX7_begin_120 : decode cX7_begin 120 = .ok (.iload_n 3, 1) := by decide +kernel
theorem dX7_begin_121 : decode cX7_begin 121 = .ok (.invokevirtual 130, 3) := by decide +kernel
theorem dX7_begin_124 : decode cX7_begin 124 = .ok (.istore 6, 2) := by decide +kernel
theorem dX7_begin_126 : decode cX7_begin 126 = .ok (.aload_n 0, 1) := by decide +kernel
theorem dX7_begin_127 : decode cX7_begin 127 = .ok (.invokevirtual 155, 3) := by decide +kernel
theorem dX7_begin_130 : decode cX7_begin 130 = .ok (.pop, 1) := by decide +kernel
theorem dX7_begin_131 : decode cX7_begin 131 = .ok (.iload 6, 2) := by decide +kernel
theorem dX7_begin_133 : decode cX7_begin 133 = .ok (.ireturn, 1) := by decide +kernel
set_option maxRecDepth 20000 in
theorem ggX7_standing_X7_isTransaction : GoodIn wsX7_standing wsX7_isTransaction := goodIn_r _ [6, 7, 8, 9, 5, 10, 16, 17, 18, 19, 20, 21, 22, 23, 24, 25, 26, 27, 28, 29, 30, 31, 32, 33, 34, 35, 36, 37, 38, 39, 40, 41, 42, 43, 44, 45, 46, 47] (by decide +kernel) (by decide +kernel)
set_option maxRecDepth 20000 in
theorem gX7_standing_X7_isTransaction : GoodIn wsX7_standing (wsV RX7 158 RX7 yX7_isTransaction wsX7_isTransaction) := goodIn_app (goodIn_of _ (by decide +kernel)) ggX7_standing_X7_isTransaction
set_option maxRecDepth 20000 in
theorem ggX7_standing_X7_fails : GoodIn wsX7_standing wsX7_fails := goodIn_r _ [14, 15, 16, 17, 18, 19, 20, 21, 22, 23, 24, 25, 26, 27, 28, 29, 30, 31, 32, 33, 34, 35, 36, 37, 38, 39, 40, 41, 42, 43, 44, 45, 46, 47] (by decide +kernel) (by decide +kernel)
set_option maxRecDepth 20000 in
theorem gX7_standing_X7_fails : GoodIn wsX7_standing (wsV RX7 137 RX7 yX7_fails wsX7_fails) := goodIn_app (goodIn_of _ (by decide +kernel)) ggX7_standing_X7_fails
theorem dX7_standing_0 : decode cX7_standing 0 = .ok (.aload_n 0, 1) := by decide +kernel
theorem dX7_standing_1 : decode cX7_standing 1 = .ok (.aload_n 0, 1) := by decide +kernel
theorem dX7_standing_2 : decode cX7_standing 2 = .ok (.iload_n 1, 1) := by decide +kernel
theorem dX7_standing_3 : decode cX7_standing 3 = .ok (.invokevirtual 158, 3) := by decide +kernel
theorem dX7_standing_6 : decode cX7_standing 6 = .ok (.ifCond .eq 7, 3) := by decide +kernel
theorem dX7_standing_9 : decode cX7_standing 9 = .ok (.iconst 0, 1) := by decide +kernel
theorem dX7_standing_10 : decode cX7_standing 10 = .ok (.goto 4, 3) := by decide +kernel
theorem dX7_standing_13 : decode cX7_standing 13 = .ok (.iconst 1, 1) := by decide +kernel
theorem dX7_standing_14 : decode cX7_standing 14 = .ok (.invokevirtual 137, 3) := by decide +kernel
theorem dX7_standing_17 : decode cX7_standing 17 = .ok (.ifCond .eq 7, 3) := by decide +kernel
theorem dX7_standing_20 : decode cX7_standing 20 = .ok (.iconst 0, 1) := by decide +kernel
theorem dX7_standing_21 : decode cX7_standing 21 = .ok (.goto 9, 3) := by decide +kernel
theorem dX7_standing_24 : decode cX7_standing 24 = .ok (.aload_n 0, 1) := by decide +kernel
theorem dX7_standing_25 : decode cX7_standing 25 = .ok (.getfield 69, 3) := by decide +kernel
theorem dX7_standing_28 : decode cX7_standing 28 = .ok (.iload_n 1, 1) := by decide +kernel
theorem dX7_standing_29 : decode cX7_standing 29 = .ok (.iaload, 1) := by decide +kernel
theorem dX7_standing_30 : decode cX7_standing 30 = .ok (.ireturn, 1) := by decide +kernel
set_option maxRecDepth 20000 in
theorem ggX7_commit_X7_isTransaction : GoodIn wsX7_commit wsX7_isTransaction := goodIn_r _ [11, 12, 13, 14, 10, 15, 55, 56, 57, 58, 59, 60, 61, 62, 63, 64, 65, 66, 67, 68, 69, 70, 71, 72, 73, 74, 75, 76, 77, 78, 79, 80, 81, 82, 83, 84, 85, 86] (by decide +kernel) (by decide +kernel)
set_option maxRecDepth 20000 in
theorem gX7_commit_X7_isTransaction : GoodIn wsX7_commit (wsV RX7 158 RX7 yX7_isTransaction wsX7_isTransaction) := goodIn_app (goodIn_of _ (by decide +kernel)) ggX7_commit_X7_isTransaction
set_option maxRecDepth 20000 in
theorem ggX7_commit_X7_fails : GoodIn wsX7_commit wsX7_fails := goodIn_r _ [19, 20, 55, 56, 57, 58, 59, 60, 61, 62, 63, 64, 65, 66, 67, 68, 69, 70, 71, 72, 73, 74, 75, 76, 77, 78, 79, 80, 81, 82, 83, 84, 85, 86] (by decide +kernel) (by decide +kernel)
set_option maxRecDepth 20000 in
theorem gX7_commit_X7_fails : GoodIn wsX7_commit (wsV RX7 137 RX7 yX7_fails wsX7_fails) := goodIn_app (goodIn_of _ (by decide +kernel)) ggX7_commit_X7_fails
set_option maxRecDepth 20000 in
theorem ggX7_commit_X7_goesOn : GoodIn wsX7_commit wsX7_goesOn := goodIn_r _ [24, 12, 1, 25, 26, 27, 10, 28, 29, 30, 31, 32, 33, 34, 35, 36, 37, 38, 39, 40, 41, 42, 43, 44, 45, 46, 47, 48, 49, 50, 51, 52, 53, 54, 55, 56, 57, 58, 59, 60, 61, 62, 63, 64, 65, 66, 67, 68, 69, 70, 71, 72, 73, 74, 75, 76, 77, 78, 79, 80, 81, 82, 83, 84, 85, 86] (by decide +kernel) (by decide +kernel)
set_option maxRecDepth 20000 in
theorem gX7_commit_X7_goesOn : GoodIn wsX7_commit (wsV RX7 155 RX7 yX7_goesOn wsX7_goesOn) := goodIn_app (goodIn_of _ (by decide +kernel)) ggX7_commit_X7_goesOn
theorem dX7_commit_0 : decode cX7_commit 0 = .ok (.aload_n 0, 1) := by decide +kernel
theorem dX7_commit_1 : decode cX7_commit 1 = .ok (.iload_n 1, 1) := by decide +kernel
theorem dX7_commit_2 : decode cX7_commit 2 = .ok (.invokevirtual 158, 3) := by decide +kernel
theorem dX7_commit_5 : decode cX7_commit 5 = .ok (.istore_n 2, 1) := by decide +kernel
theorem dX7_commit_6 : decode cX7_commit 6 = .ok (.aload_n 0, 1) := by decide +kernel
theorem dX7_commit_7 : decode cX7_commit 7 = .ok (.iload_n 2, 1) := by decide +kernel
theorem dX7_commit_8 : decode cX7_commit 8 = .ok (.ifCond .ne 7, 3) := by decide +kernel
theorem dX7_commit_11 : decode cX7_commit 11 = .ok (.iconst 1, 1) := by decide +kernel
theorem dX7_commit_12 : decode cX7_commit 12 = .ok (.goto 18, 3) := by decide +kernel
theorem dX7_commit_15 : decode cX7_commit 15 = .ok (.aload_n 0, 1) := by decide +kernel
theorem dX7_commit_16 : decode cX7_commit 16 = .ok (.getfield 69, 3) := by decide +kernel
theorem dX7_commit_19 : decode cX7_commit 19 = .ok (.iload_n 1, 1) := by decide +kernel
theorem dX7_commit_20 : decode cX7_commit 20 = .ok (.iaload, 1) := by decide +kernel
theorem dX7_commit_21 : decode cX7_commit 21 = .ok (.iconst 1, 1) := by decide +kernel
theorem dX7_commit_22 : decode cX7_commit 22 = .ok (.if_icmp .ne 7, 3) := by decide +kernel
theorem dX7_commit_25 : decode cX7_commit 25 = .ok (.iconst 0, 1) := by decide +kernel
theorem dX7_commit_26 : decode cX7_commit 26 = .ok (.goto 4, 3) := by decide +kernel
theorem dX7_commit_29 : decode cX7_commit 29 = .ok (.iconst 2, 1) := by decide +kernel
theorem dX7_commit_30 : decode cX7_commit 30 = .ok (.invokevirtual 137, 3) := by decide +kernel
theorem dX7_commit_33 : decode cX7_commit 33 = .ok (.ifCond .eq 5, 3) := by decide +kernel
theorem dX7_commit_36 : decode cX7_commit 36 = .ok (.iconst 0, 1) := by decide +kernel
theorem dX7_commit_37 : decode cX7_commit 37 = .ok (.ireturn, 1) := by decide +kernel
theorem dX7_commit_38 : decode cX7_commit 38 = .ok (.aload_n 0, 1) := by decide +kernel
theorem dX7_commit_39 : decode cX7_commit 39 = .ok (.getfield 69, 3) := by decide +kernel
theorem dX7_commit_42 : decode cX7_commit 42 = .ok (.iload_n 1, 1) := by decide +kernel
theorem dX7_commit_43 : decode cX7_commit 43 = .ok (.iconst 2, 1) := by decide +kernel
theorem dX7_commit_44 : decode cX7_commit 44 = .ok (.iastore, 1) := by decide +kernel
theorem dX7_commit_45 : decode cX7_commit 45 = .ok (.iload_n 1, 1) := by decide +kernel
theorem dX7_commit_46 : decode cX7_commit 46 = .ok (.aload_n 0, 1) := by decide +kernel
theorem dX7_commit_47 : decode cX7_commit 47 = .ok (.getfield 19, 3) := by decide +kernel
theorem dX7_commit_50 : decode cX7_commit 50 = .ok (.if_icmp .ne 35, 3) := by decide +kernel
theorem dX7_commit_53 : decode cX7_commit 53 = .ok (.aload_n 0, 1) := by decide +kernel
theorem dX7_commit_54 : decode cX7_commit 54 = .ok (.iconst (-1), 1) := by decide +kernel
theorem dX7_commit_55 : decode cX7_commit 55 = .ok (.putfield 19, 3) := by decide +kernel
theorem dX7_commit_58 : decode cX7_commit 58 = .ok (.aload_n 0, 1) := by decide +kernel
theorem dX7_commit_59 : decode cX7_commit 59 = .ok (.aload_n 0, 1) := by decide +kernel
theorem dX7_commit_60 : decode cX7_commit 60 = .ok (.getfield 13, 3) := by decide +kernel
theorem dX7_commit_63 : decode cX7_commit 63 = .ok (.aload_n 0, 1) := by decide +kernel
theorem dX7_commit_64 : decode cX7_commit 64 = .ok (.getfield 60, 3) := by decide +kernel
theorem dX7_commit_67 : decode cX7_commit 67 = .ok (.iload_n 1, 1) := by decide +kernel
theorem dX7_commit_68 : decode cX7_commit 68 = .ok (.iaload, 1) := by decide +kernel
theorem dX7_commit_69 : decode cX7_commit 69 = .ok (.iaload, 1) := by decide +kernel
theorem dX7_commit_70 : decode cX7_commit 70 = .ok (.putfield 120, 3) := by decide +kernel
theorem dX7_commit_73 : decode cX7_commit 73 = .ok (.aload_n 0, 1) := by decide +kernel
theorem dX7_commit_74 : decode cX7_commit 74 = .ok (.getfield 7, 3) := by decide +kernel
theorem dX7_commit_77 : decode cX7_commit 77 = .ok (.aload_n 0, 1) := by decide +kernel
theorem dX7_commit_78 : decode cX7_commit 78 = .ok (.getfield 60, 3) := by decide +kernel
theorem dX7_commit_81 : decode cX7_commit 81 = .ok (.iload_n 1, 1) := by decide +kernel
theorem dX7_commit_82 : decode cX7_commit 82 = .ok (.iaload, 1) := by decide +kernel
theorem dX7_commit_83 : decode cX7_commit 83 = .ok (.iconst 1, 1) := by decide +kernel
theorem dX7_commit_84 : decode cX7_commit 84 = .ok (.iastore, 1) := by decide +kernel
theorem dX7_commit_85 : decode cX7_commit 85 = .ok (.aload_n 0, 1) := by decide +kernel
theorem dX7_commit_86 : decode cX7_commit 86 = .ok (.invokevirtual 155, 3) := by decide +kernel
theorem dX7_commit_89 : decode cX7_commit 89 = .ok (.ireturn, 1) := by decide +kernel
set_option maxRecDepth 20000 in
theorem ggX7_abort_X7_isTransaction : GoodIn wsX7_abort wsX7_isTransaction := goodIn_r _ [8, 3, 9, 10, 7, 11, 84, 85, 86, 87, 88, 89, 90, 91, 92, 93, 94, 95, 96, 97, 98, 99, 100, 101, 102, 103, 104, 105, 106, 107, 108, 109, 110, 111, 112, 113, 114, 115] (by decide +kernel) (by decide +kernel)
set_option maxRecDepth 20000 in
theorem gX7_abort_X7_isTransaction : GoodIn wsX7_abort (wsV RX7 158 RX7 yX7_isTransaction wsX7_isTransaction) := goodIn_app (goodIn_of _ (by decide +kernel)) ggX7_abort_X7_isTransaction
set_option maxRecDepth 20000 in
theorem ggX7_abort_X7_isAlive : GoodIn wsX7_abort wsX7_isAlive := goodIn_r _ [15, 16, 84, 85, 86, 87, 88, 89, 90, 91, 92, 93, 94, 95, 96, 97, 98, 99, 100, 101, 102, 103, 104, 105, 106, 107, 108, 109, 110, 111, 112, 113, 114, 115] (by decide +kernel) (by decide +kernel)
set_option maxRecDepth 20000 in
theorem gX7_abort_X7_isAlive : GoodIn wsX7_abort (wsV RX7 110 RX7 yX7_isAlive wsX7_isAlive) := goodIn_app (goodIn_of _ (by decide +kernel)) ggX7_abort_X7_isAlive
set_option maxRecDepth 20000 in
theorem ggX7_abort_X7_wouldBegin : GoodIn wsX7_abort wsX7_wouldBegin := goodIn_r _ [20, 21, 22, 23, 9, 10, 7, 11, 24, 25, 26, 27, 84, 85, 86, 87, 88, 89, 90, 91, 92, 93, 94, 95, 96, 97, 98, 99, 100, 101, 102, 103, 104, 105, 106, 107, 108, 109, 110, 111, 112, 113, 114, 115] (by decide +kernel) (by decide +kernel)
set_option maxRecDepth 20000 in
theorem gX7_abort_X7_wouldBegin : GoodIn wsX7_abort (wsV RX7 149 RX7 yX7_wouldBegin wsX7_wouldBegin) := goodIn_app (goodIn_of _ (by decide +kernel)) ggX7_abort_X7_wouldBegin
set_option maxRecDepth 20000 in
theorem ggX7_abort_X7_fails : GoodIn wsX7_abort wsX7_fails := goodIn_r _ [31, 32, 84, 85, 86, 87, 88, 89, 90, 91, 92, 93, 94, 95, 96, 97, 98, 99, 100, 101, 102, 103, 104, 105, 106, 107, 108, 109, 110, 111, 112, 113, 114, 115] (by decide +kernel) (by decide +kernel)
set_option maxRecDepth 20000 in
theorem gX7_abort_X7_fails : GoodIn wsX7_abort (wsV RX7 137 RX7 yX7_fails wsX7_fails) := goodIn_app (goodIn_of _ (by decide +kernel)) ggX7_abort_X7_fails
set_option maxRecDepth 20000 in
theorem ggX7_abort_X7_aborts : GoodIn wsX7_abort wsX7_aborts := goodIn_r _ [36, 16, 37, 38, 1, 21, 2, 39, 40, 41, 7, 42, 43, 44, 45, 46, 47, 48, 49, 50, 51, 52, 53, 54, 84, 85, 86, 87, 88, 89, 90, 91, 92, 93, 94, 95, 96, 97, 98, 99, 100, 101, 102, 103, 104, 105, 106, 107, 108, 109, 110, 111, 112, 113, 114, 115] (by decide +kernel) (by decide +kernel)
set_option maxRecDepth 20000 in
theorem gX7_abort_X7_aborts : GoodIn wsX7_abort (wsV RX7 152 RX7 yX7_aborts wsX7_aborts) := goodIn_app (goodIn_of _ (by decide +kernel)) ggX7_abort_X7_aborts
set_option maxRecDepth 20000 in
theorem ggX7_abort_X7_goesOn : GoodIn wsX7_abort wsX7_goesOn := goodIn_r _ [58, 3, 16, 59, 60, 61, 7, 62, 38, 37, 12, 13, 14, 15, 63, 64, 65, 66, 67, 68, 69, 70, 44, 43, 46, 45, 48, 47, 50, 49, 52, 51, 54, 53, 84, 85, 86, 87, 88, 89, 90, 91, 92, 93, 94, 95, 96, 97, 98, 99, 100, 101, 102, 103, 104, 105, 106, 107, 108, 109, 110, 111, 112, 113, 114, 115] (by decide +kernel) (by decide +kernel)
set_option maxRecDepth 20000 in
theorem gX7_abort_X7_goesOn : GoodIn wsX7_abort (wsV RX7 155 RX7 yX7_goesOn wsX7_goesOn) := goodIn_app (goodIn_of _ (by decide +kernel)) ggX7_abort_X7_goesOn
set_option maxRecDepth 20000 in
theorem ggX7_abort_X7_looks : GoodIn wsX7_abort wsX7_looks := goodIn_r _ [74, 22, 23, 21, 1, 75, 76, 77, 7, 78, 79, 24, 25, 26, 27, 9, 10, 11, 80, 81, 82, 83, 2, 3, 38, 37, 16, 63, 64, 65, 66, 67, 68, 69, 70, 44, 43, 46, 45, 48, 47, 50, 49, 52, 51, 54, 53, 84, 85, 86, 87, 88, 89, 90, 91, 92, 93, 94, 95, 96, 97, 98, 99, 100, 101, 102, 103, 104, 105, 106, 107, 108, 109, 110, 111, 112, 113, 114, 115] (by decide +kernel) (by decide +kernel)
set_option maxRecDepth 20000 in
theorem gX7_abort_X7_looks : GoodIn wsX7_abort (wsV RX7 143 RX7 yX7_looks wsX7_looks) := goodIn_app (goodIn_of _ (by decide +kernel)) ggX7_abort_X7_looks
theorem dX7_abort_0 : decode cX7_abort 0 = .ok (.aload_n 0, 1) := by decide +kernel
theorem dX7_abort_1 : decode cX7_abort 1 = .ok (.iload_n 1, 1) := by decide +kernel
theorem dX7_abort_2 : decode cX7_abort 2 = .ok (.invokevirtual 158, 3) := by decide +kernel
theorem dX7_abort_5 : decode cX7_abort 5 = .ok (.istore_n 2, 1) := by decide +kernel
theorem dX7_abort_6 : decode cX7_abort 6 = .ok (.iload_n 2, 1) := by decide +kernel
theorem dX7_abort_7 : decode cX7_abort 7 = .ok (.ifCond .eq 45, 3) := by decide +kernel
theorem dX7_abort_10 : decode cX7_abort 10 = .ok (.aload_n 0, 1) := by decide +kernel
theorem dX7_abort_11 : decode cX7_abort 11 = .ok (.iload_n 1, 1) := by decide +kernel
theorem dX7_abort_12 : decode cX7_abort 12 = .ok (.invokevirtual 110, 3) := by decide +kernel
theorem dX7_abort_15 : decode cX7_abort 15 = .ok (.ifCond .eq 37, 3) := by decide +kernel
theorem dX7_abort_18 : decode cX7_abort 18 = .ok (.iload_n 1, 1) := by decide +kernel
theorem dX7_abort_19 : decode cX7_abort 19 = .ok (.aload_n 0, 1) := by decide +kernel
theorem dX7_abort_20 : decode cX7_abort 20 = .ok (.getfield 19, 3) := by decide +kernel
theorem dX7_abort_23 : decode cX7_abort 23 = .ok (.if_icmp .ne 25, 3) := by decide +kernel
theorem dX7_abort_26 : decode cX7_abort 26 = .ok (.aload_n 0, 1) := by decide +kernel
theorem dX7_abort_27 : decode cX7_abort 27 = .ok (.aload_n 0, 1) := by decide +kernel
theorem dX7_abort_28 : decode cX7_abort 28 = .ok (.getfield 60, 3) := by decide +kernel
theorem dX7_abort_31 : decode cX7_abort 31 = .ok (.iload_n 1, 1) := by decide +kernel
theorem dX7_abort_32 : decode cX7_abort 32 = .ok (.iaload, 1) := by decide +kernel
theorem dX7_abort_33 : decode cX7_abort 33 = .ok (.invokevirtual 149, 3) := by decide +kernel
theorem dX7_abort_36 : decode cX7_abort 36 = .ok (.ifCond .eq 12, 3) := by decide +kernel
theorem dX7_abort_39 : decode cX7_abort 39 = .ok (.aload_n 0, 1) := by decide +kernel
theorem dX7_abort_40 : decode cX7_abort 40 = .ok (.getfield 100, 3) := by decide +kernel
theorem dX7_abort_43 : decode cX7_abort 43 = .ok (.bipush 60, 2) := by decide +kernel
theorem dX7_abort_45 : decode cX7_abort 45 = .ok (.if_icmp .eq 7, 3) := by decide +kernel
theorem dX7_abort_48 : decode cX7_abort 48 = .ok (.iconst 1, 1) := by decide +kernel
theorem dX7_abort_49 : decode cX7_abort 49 = .ok (.goto 4, 3) := by decide +kernel
theorem dX7_abort_52 : decode cX7_abort 52 = .ok (.iconst 0, 1) := by decide +kernel
theorem dX7_abort_53 : decode cX7_abort 53 = .ok (.istore_n 3, 1) := by decide +kernel
theorem dX7_abort_54 : decode cX7_abort 54 = .ok (.aload_n 0, 1) := by decide +kernel
theorem dX7_abort_55 : decode cX7_abort 55 = .ok (.iload_n 2, 1) := by decide +kernel
theorem dX7_abort_56 : decode cX7_abort 56 = .ok (.ifCond .ne 7, 3) := by decide +kernel
theorem dX7_abort_59 : decode cX7_abort 59 = .ok (.iconst 1, 1) := by decide +kernel
theorem dX7_abort_60 : decode cX7_abort 60 = .ok (.goto 12, 3) := by decide +kernel
theorem dX7_abort_63 : decode cX7_abort 63 = .ok (.iload_n 3, 1) := by decide +kernel
theorem dX7_abort_64 : decode cX7_abort 64 = .ok (.ifCond .eq 7, 3) := by decide +kernel
theorem dX7_abort_67 : decode cX7_abort 67 = .ok (.iconst 0, 1) := by decide +kernel
theorem dX7_abort_68 : decode cX7_abort 68 = .ok (.goto 4, 3) := by decide +kernel
theorem dX7_abort_71 : decode cX7_abort 71 = .ok (.iconst 2, 1) := by decide +kernel
theorem dX7_abort_72 : decode cX7_abort 72 = .ok (.invokevirtual 137, 3) := by decide +kernel
theorem dX7_abort_75 : decode cX7_abort 75 = .ok (.ifCond .eq 5, 3) := by decide +kernel
theorem dX7_abort_78 : decode cX7_abort 78 = .ok (.iconst 0, 1) := by decide +kernel
theorem dX7_abort_79 : decode cX7_abort 79 = .ok (.ireturn, 1) := by decide +kernel
theorem dX7_abort_80 : decode cX7_abort 80 = .ok (.aload_n 0, 1) := by decide +kernel
theorem dX7_abort_81 : decode cX7_abort 81 = .ok (.iload_n 1, 1) := by decide +kernel
theorem dX7_abort_82 : decode cX7_abort 82 = .ok (.invokevirtual 152, 3) := by decide +kernel
theorem dX7_abort_85 : decode cX7_abort 85 = .ok (.aload_n 0, 1) := by decide +kernel
theorem dX7_abort_86 : decode cX7_abort 86 = .ok (.invokevirtual 155, 3) := by decide +kernel
theorem dX7_abort_89 : decode cX7_abort 89 = .ok (.istore 4, 2) := by decide +kernel
theorem dX7_abort_91 : decode cX7_abort 91 = .ok (.aload_n 0, 1) := by decide +kernel
theorem dX7_abort_92 : decode cX7_abort 92 = .ok (.invokevirtual 143, 3) := by decide +kernel
theorem dX7_abort_95 : decode cX7_abort 95 = .ok (.iload 4, 2) := by decide +kernel
theorem dX7_abort_97 : decode cX7_abort 97 = .ok (.ireturn, 1) := by decide +kernel
theorem dX7_can_0 : decode cX7_can 0 = .ok (.aload_n 0, 1) := by decide +kernel
theorem dX7_can_1 : decode cX7_can 1 = .ok (.getfield 69, 3) := by decide +kernel
theorem dX7_can_4 : decode cX7_can 4 = .ok (.iload_n 1, 1) := by decide +kernel
theorem dX7_can_5 : decode cX7_can 5 = .ok (.iaload, 1) := by decide +kernel
theorem dX7_can_6 : decode cX7_can 6 = .ok (.iconst 1, 1) := by decide +kernel
theorem dX7_can_7 : decode cX7_can 7 = .ok (.if_icmp .ne 34, 3) := by decide +kernel
theorem dX7_can_10 : decode cX7_can 10 = .ok (.aload_n 0, 1) := by decide +kernel
theorem dX7_can_11 : decode cX7_can 11 = .ok (.getfield 63, 3) := by decide +kernel
theorem dX7_can_14 : decode cX7_can 14 = .ok (.iload_n 1, 1) := by decide +kernel
theorem dX7_can_15 : decode cX7_can 15 = .ok (.iaload, 1) := by decide +kernel
theorem dX7_can_16 : decode cX7_can 16 = .ok (.iload_n 2, 1) := by decide +kernel
theorem dX7_can_17 : decode cX7_can 17 = .ok (.ishr, 1) := by decide +kernel
theorem dX7_can_18 : decode cX7_can 18 = .ok (.iconst 1, 1) := by decide +kernel
theorem dX7_can_19 : decode cX7_can 19 = .ok (.iand, 1) := by decide +kernel
theorem dX7_can_20 : decode cX7_can 20 = .ok (.iconst 1, 1) := by decide +kernel
theorem dX7_can_21 : decode cX7_can 21 = .ok (.if_icmp .ne 20, 3) := by decide +kernel
theorem dX7_can_24 : decode cX7_can 24 = .ok (.aload_n 0, 1) := by decide +kernel
theorem dX7_can_25 : decode cX7_can 25 = .ok (.getfield 66, 3) := by decide +kernel
theorem dX7_can_28 : decode cX7_can 28 = .ok (.iload_n 1, 1) := by decide +kernel
theorem dX7_can_29 : decode cX7_can 29 = .ok (.baload, 1) := by decide +kernel
theorem dX7_can_30 : decode cX7_can 30 = .ok (.ifCond .ne 7, 3) := by decide +kernel
theorem dX7_can_33 : decode cX7_can 33 = .ok (.iload_n 3, 1) := by decide +kernel
theorem dX7_can_34 : decode cX7_can 34 = .ok (.ifCond .ne 7, 3) := by decide +kernel
theorem dX7_can_37 : decode cX7_can 37 = .ok (.iconst 1, 1) := by decide +kernel
theorem dX7_can_38 : decode cX7_can 38 = .ok (.goto 4, 3) := by decide +kernel
theorem dX7_can_41 : decode cX7_can 41 = .ok (.iconst 0, 1) := by decide +kernel
theorem dX7_can_42 : decode cX7_can 42 = .ok (.ireturn, 1) := by decide +kernel
theorem dX7_find_0 : decode cX7_find 0 = .ok (.bipush 40, 2) := by decide +kernel
theorem dX7_find_2 : decode cX7_find 2 = .ok (.iload_n 1, 1) := by decide +kernel
theorem dX7_find_3 : decode cX7_find 3 = .ok (.imul, 1) := by decide +kernel
theorem dX7_find_4 : decode cX7_find 4 = .ok (.istore_n 3, 1) := by decide +kernel
theorem dX7_find_5 : decode cX7_find 5 = .ok (.iload_n 3, 1) := by decide +kernel
theorem dX7_find_6 : decode cX7_find 6 = .ok (.bipush 40, 2) := by decide +kernel
theorem dX7_find_8 : decode cX7_find 8 = .ok (.iload_n 1, 1) := by decide +kernel
theorem dX7_find_9 : decode cX7_find 9 = .ok (.imul, 1) := by decide +kernel
theorem dX7_find_10 : decode cX7_find 10 = .ok (.aload_n 0, 1) := by decide +kernel
theorem dX7_find_11 : decode cX7_find 11 = .ok (.getfield 30, 3) := by decide +kernel
theorem dX7_find_14 : decode cX7_find 14 = .ok (.iload_n 1, 1) := by decide +kernel
theorem dX7_find_15 : decode cX7_find 15 = .ok (.iaload, 1) := by decide +kernel
theorem dX7_find_16 : decode cX7_find 16 = .ok (.iadd, 1) := by decide +kernel
theorem dX7_find_17 : decode cX7_find 17 = .ok (.if_icmp .ge 21, 3) := by decide +kernel
theorem dX7_find_20 : decode cX7_find 20 = .ok (.aload_n 0, 1) := by decide +kernel
theorem dX7_find_21 : decode cX7_find 21 = .ok (.getfield 33, 3) := by decide +kernel
theorem dX7_find_24 : decode cX7_find 24 = .ok (.iload_n 3, 1) := by decide +kernel
theorem dX7_find_25 : decode cX7_find 25 = .ok (.iaload, 1) := by decide +kernel
theorem dX7_find_26 : decode cX7_find 26 = .ok (.iload_n 2, 1) := by decide +kernel
theorem dX7_find_27 : decode cX7_find 27 = .ok (.if_icmp .ne 5, 3) := by decide +kernel
theorem dX7_find_30 : decode cX7_find 30 = .ok (.iload_n 3, 1) := by decide +kernel
theorem dX7_find_31 : decode cX7_find 31 = .ok (.ireturn, 1) := by decide +kernel
theorem dX7_find_32 : decode cX7_find 32 = .ok (.iinc 3 1, 3) := by decide +kernel
theorem dX7_find_35 : decode cX7_find 35 = .ok (.goto (-30), 3) := by decide +kernel
theorem dX7_find_38 : decode cX7_find 38 = .ok (.iconst (-1), 1) := by decide +kernel
theorem dX7_find_39 : decode cX7_find 39 = .ok (.ireturn, 1) := by decide +kernel
theorem dX7_isTaken_0 : decode cX7_isTaken 0 = .ok (.iconst 0, 1) := by decide +kernel
theorem dX7_isTaken_1 : decode cX7_isTaken 1 = .ok (.istore 5, 2) := by decide +kernel
theorem dX7_isTaken_3 : decode cX7_isTaken 3 = .ok (.bipush 40, 2) := by decide +kernel
theorem dX7_isTaken_5 : decode cX7_isTaken 5 = .ok (.iload_n 1, 1) := by decide +kernel
theorem dX7_isTaken_6 : decode cX7_isTaken 6 = .ok (.imul, 1) := by decide +kernel
theorem dX7_isTaken_7 : decode cX7_isTaken 7 = .ok (.istore 6, 2) := by decide +kernel
theorem dX7_isTaken_9 : decode cX7_isTaken 9 = .ok (.iload 6, 2) := by decide +kernel
theorem dX7_isTaken_11 : decode cX7_isTaken 11 = .ok (.bipush 40, 2) := by decide +kernel
theorem dX7_isTaken_13 : decode cX7_isTaken 13 = .ok (.iload_n 1, 1) := by decide +kernel
theorem dX7_isTaken_14 : decode cX7_isTaken 14 = .ok (.imul, 1) := by decide +kernel
theorem dX7_isTaken_15 : decode cX7_isTaken 15 = .ok (.aload_n 0, 1) := by decide +kernel
theorem dX7_isTaken_16 : decode cX7_isTaken 16 = .ok (.getfield 30, 3) := by decide +kernel
theorem dX7_isTaken_19 : decode cX7_isTaken 19 = .ok (.iload_n 1, 1) := by decide +kernel
theorem dX7_isTaken_20 : decode cX7_isTaken 20 = .ok (.iaload, 1) := by decide +kernel
theorem dX7_isTaken_21 : decode cX7_isTaken 21 = .ok (.iadd, 1) := by decide +kernel
theorem dX7_isTaken_22 : decode cX7_isTaken 22 = .ok (.if_icmp .ge 54, 3) := by decide +kernel
theorem dX7_isTaken_25 : decode cX7_isTaken 25 = .ok (.iload 5, 2) := by decide +kernel
theorem dX7_isTaken_27 : decode cX7_isTaken 27 = .ok (.ifCond .ne 36, 3) := by decide +kernel
theorem dX7_isTaken_30 : decode cX7_isTaken 30 = .ok (.aload_n 0, 1) := by decide +kernel
theorem dX7_isTaken_31 : decode cX7_isTaken 31 = .ok (.getfield 33, 3) := by decide +kernel
theorem dX7_isTaken_34 : decode cX7_isTaken 34 = .ok (.iload 6, 2) := by decide +kernel
theorem dX7_isTaken_36 : decode cX7_isTaken 36 = .ok (.iaload, 1) := by decide +kernel
theorem dX7_isTaken_37 : decode cX7_isTaken 37 = .ok (.iload_n 2, 1) := by decide +kernel
theorem dX7_isTaken_38 : decode cX7_isTaken 38 = .ok (.if_icmp .eq 29, 3) := by decide +kernel
theorem dX7_isTaken_41 : decode cX7_isTaken 41 = .ok (.iload 4, 2) := by decide +kernel
theorem dX7_isTaken_43 : decode cX7_isTaken 43 = .ok (.iconst (-1), 1) := by decide +kernel
theorem dX7_isTaken_44 : decode cX7_isTaken 44 = .ok (.if_icmp .eq 23, 3) := by decide +kernel
theorem dX7_isTaken_47 : decode cX7_isTaken 47 = .ok (.aload_n 0, 1) := by decide +kernel
theorem dX7_isTaken_48 : decode cX7_isTaken 48 = .ok (.getfield 39, 3) := by decide +kernel
theorem dX7_isTaken_51 : decode cX7_isTaken 51 = .ok (.iconst 2, 1) := by decide +kernel
theorem dX7_isTaken_52 : decode cX7_isTaken 52 = .ok (.iload 6, 2) := by decide +kernel
theorem dX7_isTaken_54 : decode cX7_isTaken 54 = .ok (.imul, 1) := by decide +kernel
theorem dX7_isTaken_55 : decode cX7_isTaken 55 = .ok (.iload_n 3, 1) := by decide +kernel
theorem dX7_isTaken_56 : decode cX7_isTaken 56 = .ok (.iadd, 1) := by decide +kernel
theorem dX7_isTaken_57 : decode cX7_isTaken 57 = .ok (.iaload, 1) := by decide +kernel
theorem dX7_isTaken_58 : decode cX7_isTaken 58 = .ok (.iload 4, 2) := by decide +kernel
theorem dX7_isTaken_60 : decode cX7_isTaken 60 = .ok (.if_icmp .ne 7, 3) := by decide +kernel
theorem dX7_isTaken_63 : decode cX7_isTaken 63 = .ok (.iconst 1, 1) := by decide +kernel
theorem dX7_isTaken_64 : decode cX7_isTaken 64 = .ok (.goto 4, 3) := by decide +kernel
theorem dX7_isTaken_67 : decode cX7_isTaken 67 = .ok (.iconst 0, 1) := by decide +kernel
theorem dX7_isTaken_68 : decode cX7_isTaken 68 = .ok (.istore 5, 2) := by decide +kernel
theorem dX7_isTaken_70 : decode cX7_isTaken 70 = .ok (.iinc 6 1, 3) := by decide +kernel
theorem dX7_isTaken_73 : decode cX7_isTaken 73 = .ok (.goto (-64), 3) := by decide +kernel
theorem dX7_isTaken_76 : decode cX7_isTaken 76 = .ok (.iload 5, 2) := by decide +kernel
theorem dX7_isTaken_78 : decode cX7_isTaken 78 = .ok (.ifCond .eq 21, 3) := by decide +kernel
theorem dX7_isTaken_81 : decode cX7_isTaken 81 = .ok (.aload_n 0, 1) := by decide +kernel
theorem dX7_isTaken_82 : decode cX7_isTaken 82 = .ok (.getfield 27, 3) := by decide +kernel
theorem dX7_isTaken_85 : decode cX7_isTaken 85 = .ok (.iconst 2, 1) := by decide +kernel
theorem dX7_isTaken_86 : decode cX7_isTaken 86 = .ok (.iload_n 1, 1) := by decide +kernel
theorem dX7_isTaken_87 : decode cX7_isTaken 87 = .ok (.imul, 1) := by decide +kernel
theorem dX7_isTaken_88 : decode cX7_isTaken 88 = .ok (.iload_n 3, 1) := by decide +kernel
theorem dX7_isTaken_89 : decode cX7_isTaken 89 = .ok (.iadd, 1) := by decide +kernel
theorem dX7_isTaken_90 : decode cX7_isTaken 90 = .ok (.iaload, 1) := by decide +kernel
theorem dX7_isTaken_91 : decode cX7_isTaken 91 = .ok (.iconst 2, 1) := by decide +kernel
theorem dX7_isTaken_92 : decode cX7_isTaken 92 = .ok (.if_icmp .ne 7, 3) := by decide +kernel
theorem dX7_isTaken_95 : decode cX7_isTaken 95 = .ok (.iconst 1, 1) := by decide +kernel
theorem dX7_isTaken_96 : decode cX7_isTaken 96 = .ok (.goto 4, 3) := by decide +kernel
theorem dX7_isTaken_99 : decode cX7_isTaken 99 = .ok (.iconst 0, 1) := by decide +kernel
theorem dX7_isTaken_100 : decode cX7_isTaken 100 = .ok (.ireturn, 1) := by decide +kernel
set_option maxRecDepth 20000 in
theorem ggX7_put_X7_isTransaction : GoodIn wsX7_put wsX7_isTransaction := goodIn_r _ [9, 10, 11, 12, 8, 13, 46, 47, 48, 49, 50, 51, 52, 53, 54, 55, 56, 57, 58, 59, 60, 61, 62, 63, 64, 65, 66, 67, 68, 69, 70, 71, 72, 73, 74, 75, 76, 77] (by decide +kernel) (by decide +kernel)
set_option maxRecDepth 20000 in
theorem gX7_put_X7_isTransaction : GoodIn wsX7_put (wsV RX7 158 RX7 yX7_isTransaction wsX7_isTransaction) := goodIn_app (goodIn_of _ (by decide +kernel)) ggX7_put_X7_isTransaction
set_option maxRecDepth 20000 in
theorem ggX7_put_X7_isStore : GoodIn wsX7_put wsX7_isStore := goodIn_r _ [17, 18, 11, 12, 8, 13, 46, 47, 48, 49, 50, 51, 52, 53, 54, 55, 56, 57, 58, 59, 60, 61, 62, 63, 64, 65, 66, 67, 68, 69, 70, 71, 72, 73, 74, 75, 76, 77] (by decide +kernel) (by decide +kernel)
set_option maxRecDepth 20000 in
theorem gX7_put_X7_isStore : GoodIn wsX7_put (wsV RX7 161 RX7 yX7_isStore wsX7_isStore) := goodIn_app (goodIn_of _ (by decide +kernel)) ggX7_put_X7_isStore
set_option maxRecDepth 20000 in
theorem ggX7_put_X7_isKey : GoodIn wsX7_put wsX7_isKey := goodIn_r _ [21, 22, 23, 24, 11, 12, 8, 13] (by decide +kernel) (by decide +kernel)
set_option maxRecDepth 20000 in
theorem gX7_put_X7_isKey : GoodIn wsX7_put (va_wsS RX7 168 yX7_isKey wsX7_isKey) := goodIn_app (goodIn_of _ (by decide +kernel)) ggX7_put_X7_isKey
set_option maxRecDepth 20000 in
theorem ggX7_put_X7_isIn : GoodIn wsX7_put wsX7_isIn := goodIn_r _ [13] (by decide +kernel) (by decide +kernel)
set_option maxRecDepth 20000 in
theorem gX7_put_X7_isIn : GoodIn wsX7_put (va_wsS RX7 96 yX7_isIn wsX7_isIn) := goodIn_app (goodIn_of _ (by decide +kernel)) ggX7_put_X7_isIn
set_option maxRecDepth 20000 in
theorem ggX7_put_X7_find : GoodIn wsX7_put wsX7_find := goodIn_r _ [28, 1, 2, 46, 47, 48, 49, 50, 51, 52, 53, 54, 55, 56, 57, 58, 59, 60, 61, 62, 63, 64, 65, 66, 67, 68, 69, 70, 71, 72, 73, 74, 75, 76, 77] (by decide +kernel) (by decide +kernel)
set_option maxRecDepth 20000 in
theorem gX7_put_X7_find : GoodIn wsX7_put (wsV RX7 171 RX7 yX7_find wsX7_find) := goodIn_app (goodIn_of _ (by decide +kernel)) ggX7_put_X7_find
set_option maxRecDepth 20000 in
theorem ggX7_put_X7_can : GoodIn wsX7_put wsX7_can := goodIn_r _ [32, 33, 34, 35, 46, 47, 48, 49, 50, 51, 52, 53, 54, 55, 56, 57, 58, 59, 60, 61, 62, 63, 64, 65, 66, 67, 68, 69, 70, 71, 72, 73, 74, 75, 76, 77] (by decide +kernel) (by decide +kernel)
set_option maxRecDepth 20000 in
theorem gX7_put_X7_can : GoodIn wsX7_put (wsV RX7 175 RX7 yX7_can wsX7_can) := goodIn_app (goodIn_of _ (by decide +kernel)) ggX7_put_X7_can
set_option maxRecDepth 20000 in
theorem ggX7_put_X7_isTaken : GoodIn wsX7_put wsX7_isTaken := goodIn_r _ [39, 1, 2, 4, 40, 46, 47, 48, 49, 50, 51, 52, 53, 54, 55, 56, 57, 58, 59, 60, 61, 62, 63, 64, 65, 66, 67, 68, 69, 70, 71, 72, 73, 74, 75, 76, 77] (by decide +kernel) (by decide +kernel)
set_option maxRecDepth 20000 in
theorem gX7_put_X7_isTaken : GoodIn wsX7_put (wsV RX7 179 RX7 yX7_isTaken wsX7_isTaken) := goodIn_app (goodIn_of _ (by decide +kernel)) ggX7_put_X7_isTaken
set_option maxRecDepth 20000 in
theorem ggX7_put_X7_fails : GoodIn wsX7_put wsX7_fails := goodIn_r _ [44, 45, 46, 47, 48, 49, 50, 51, 52, 53, 54, 55, 56, 57, 58, 59, 60, 61, 62, 63, 64, 65, 66, 67, 68, 69, 70, 71, 72, 73, 74, 75, 76, 77] (by decide +kernel) (by decide +kernel)
set_option maxRecDepth 20000 in
theorem gX7_put_X7_fails : GoodIn wsX7_put (wsV RX7 137 RX7 yX7_fails wsX7_fails) := goodIn_app (goodIn_of _ (by decide +kernel)) ggX7_put_X7_fails
theorem dX7_put_0 : decode cX7_put 0 = .ok (.aload_n 0, 1) := by decide +kernel
theorem dX7_put_1 : decode cX7_put 1 = .ok (.iload_n 1, 1) := by decide +kernel
theorem dX7_put_2 : decode cX7_put 2 = .ok (.invokevirtual 158, 3) := by decide +kernel
theorem dX7_put_5 : decode cX7_put 5 = .ok (.ifCond .eq 15, 3) := by decide +kernel
theorem dX7_put_8 : decode cX7_put 8 = .ok (.aload_n 0, 1) := by decide +kernel
theorem dX7_put_9 : decode cX7_put 9 = .ok (.iload_n 2, 1) := by decide +kernel
theorem dX7_put_10 : decode cX7_put 10 = .ok (.invokevirtual 161, 3) := by decide +kernel
theorem dX7_put_13 : decode cX7_put 13 = .ok (.ifCond .eq 7, 3) := by decide +kernel
theorem dX7_put_16 : decode cX7_put 16 = .ok (.iconst 1, 1) := by decide +kernel
theorem dX7_put_17 : decode cX7_put 17 = .ok (.goto 4, 3) := by decide +kernel
theorem dX7_put_20 : decode cX7_put 20 = .ok (.iconst 0, 1) := by decide +kernel
theorem dX7_put_21 : decode cX7_put 21 = .ok (.istore 7, 2) := by decide +kernel
theorem dX7_put_23 : decode cX7_put 23 = .ok (.iload_n 3, 1) := by decide +kernel
theorem dX7_put_24 : decode cX7_put 24 = .ok (.invokestatic 168, 3) := by decide +kernel
theorem dX7_put_27 : decode cX7_put 27 = .ok (.ifCond .eq 43, 3) := by decide +kernel
theorem dX7_put_30 : decode cX7_put 30 = .ok (.iload 4, 2) := by decide +kernel
theorem dX7_put_32 : decode cX7_put 32 = .ok (.iconst 0, 1) := by decide +kernel
theorem dX7_put_33 : decode cX7_put 33 = .ok (.sipush 9999, 3) := by decide +kernel
theorem dX7_put_36 : decode cX7_put 36 = .ok (.invokestatic 96, 3) := by decide +kernel
theorem dX7_put_39 : decode cX7_put 39 = .ok (.ifCond .eq 31, 3) := by decide +kernel
theorem dX7_put_42 : decode cX7_put 42 = .ok (.iload 5, 2) := by decide +kernel
theorem dX7_put_44 : decode cX7_put 44 = .ok (.iconst (-1), 1) := by decide +kernel
theorem dX7_put_45 : decode cX7_put 45 = .ok (.sipush 999, 3) := by decide +kernel
theorem dX7_put_48 : decode cX7_put 48 = .ok (.invokestatic 96, 3) := by decide +kernel
theorem dX7_put_51 : decode cX7_put 51 = .ok (.ifCond .eq 19, 3) := by decide +kernel
theorem dX7_put_54 : decode cX7_put 54 = .ok (.iload 6, 2) := by decide +kernel
theorem dX7_put_56 : decode cX7_put 56 = .ok (.iconst (-1), 1) := by decide +kernel
theorem dX7_put_57 : decode cX7_put 57 = .ok (.sipush 999, 3) := by decide +kernel
theorem dX7_put_60 : decode cX7_put 60 = .ok (.invokestatic 96, 3) := by decide +kernel
theorem dX7_put_63 : decode cX7_put 63 = .ok (.ifCond .eq 7, 3) := by decide +kernel
theorem dX7_put_66 : decode cX7_put 66 = .ok (.iconst 1, 1) := by decide +kernel
theorem dX7_put_67 : decode cX7_put 67 = .ok (.goto 4, 3) := by decide +kernel
theorem dX7_put_70 : decode cX7_put 70 = .ok (.iconst 0, 1) := by decide +kernel
theorem dX7_put_71 : decode cX7_put 71 = .ok (.istore 8, 2) := by decide +kernel
theorem dX7_put_73 : decode cX7_put 73 = .ok (.iload 7, 2) := by decide +kernel
theorem dX7_put_75 : decode cX7_put 75 = .ok (.ifCond .eq 12, 3) := by decide +kernel
theorem dX7_put_78 : decode cX7_put 78 = .ok (.aload_n 0, 1) := by decide +kernel
theorem dX7_put_79 : decode cX7_put 79 = .ok (.iload_n 2, 1) := by decide +kernel
theorem dX7_put_80 : decode cX7_put 80 = .ok (.iload_n 3, 1) := by decide +kernel
theorem dX7_put_81 : decode cX7_put 81 = .ok (.invokevirtual 171, 3) := by decide +kernel
theorem dX7_put_84 : decode cX7_put 84 = .ok (.goto 4, 3) := by decide +kernel
theorem dX7_put_87 : decode cX7_put 87 = .ok (.iconst (-1), 1) := by decide +kernel
theorem dX7_put_88 : decode cX7_put 88 = .ok (.istore 9, 2) := by decide +kernel
theorem dX7_put_90 : decode cX7_put 90 = .ok (.iload 9, 2) := by decide +kernel
theorem dX7_put_92 : decode cX7_put 92 = .ok (.iconst (-1), 1) := by decide +kernel
theorem dX7_put_93 : decode cX7_put 93 = .ok (.if_icmp .ne 32, 3) := by decide +kernel
theorem dX7_put_96 : decode cX7_put 96 = .ok (.aload_n 0, 1) := by decide +kernel
theorem dX7_put_97 : decode cX7_put 97 = .ok (.getfield 30, 3) := by decide +kernel
theorem dX7_put_100 : decode cX7_put 100 = .ok (.iconst 0, 1) := by decide +kernel
theorem dX7_put_101 : decode cX7_put 101 = .ok (.iaload, 1) := by decide +kernel
theorem dX7_put_102 : decode cX7_put 102 = .ok (.aload_n 0, 1) := by decide +kernel
theorem dX7_put_103 : decode cX7_put 103 = .ok (.getfield 30, 3) := by decide +kernel
theorem dX7_put_106 : decode cX7_put 106 = .ok (.iconst 1, 1) := by decide +kernel
theorem dX7_put_107 : decode cX7_put 107 = .ok (.iaload, 1) := by decide +kernel
theorem dX7_put_108 : decode cX7_put 108 = .ok (.iadd, 1) := by decide +kernel
theorem dX7_put_109 : decode cX7_put 109 = .ok (.aload_n 0, 1) := by decide +kernel
theorem dX7_put_110 : decode cX7_put 110 = .ok (.getfield 30, 3) := by decide +kernel
theorem dX7_put_113 : decode cX7_put 113 = .ok (.iconst 2, 1) := by decide +kernel
theorem dX7_put_114 : decode cX7_put 114 = .ok (.iaload, 1) := by decide +kernel
theorem dX7_put_115 : decode cX7_put 115 = .ok (.iadd, 1) := by decide +kernel
theorem dX7_put_116 : decode cX7_put 116 = .ok (.bipush 40, 2) := by decide +kernel
theorem dX7_put_118 : decode cX7_put 118 = .ok (.if_icmp .lt 7, 3) := by decide +kernel
theorem dX7_put_121 : decode cX7_put 121 = .ok (.iconst 1, 1) := by decide +kernel
theorem dX7_put_122 : decode cX7_put 122 = .ok (.goto 4, 3) := by decide +kernel
theorem dX7_put_125 : decode cX7_put 125 = .ok (.iconst 0, 1) := by decide +kernel
theorem dX7_put_126 : decode cX7_put 126 = .ok (.istore 10, 2) := by decide +kernel
theorem dX7_put_128 : decode cX7_put 128 = .ok (.iload 7, 2) := by decide +kernel
theorem dX7_put_130 : decode cX7_put 130 = .ok (.ifCond .eq 51, 3) := by decide +kernel
theorem dX7_put_133 : decode cX7_put 133 = .ok (.iload 8, 2) := by decide +kernel
theorem dX7_put_135 : decode cX7_put 135 = .ok (.ifCond .eq 46, 3) := by decide +kernel
theorem dX7_put_138 : decode cX7_put 138 = .ok (.aload_n 0, 1) := by decide +kernel
theorem dX7_put_139 : decode cX7_put 139 = .ok (.iload_n 1, 1) := by decide +kernel
theorem dX7_put_140 : decode cX7_put 140 = .ok (.iload_n 2, 1) := by decide +kernel
theorem dX7_put_141 : decode cX7_put 141 = .ok (.iconst 1, 1) := by decide +kernel
theorem dX7_put_142 : decode cX7_put 142 = .ok (.invokevirtual 175, 3) := by decide +kernel
theorem dX7_put_145 : decode cX7_put 145 = .ok (.ifCond .eq 36, 3) := by decide +kernel
theorem dX7_put_148 : decode cX7_put 148 = .ok (.aload_n 0, 1) := by decide +kernel
theorem dX7_put_149 : decode cX7_put 149 = .ok (.iload_n 2, 1) := by decide +kernel
theorem dX7_put_150 : decode cX7_put 150 = .ok (.iload_n 3, 1) := by decide +kernel
theorem dX7_put_151 : decode cX7_put 151 = .ok (.iconst 0, 1) := by decide +kernel
theorem dX7_put_152 : decode cX7_put 152 = .ok (.iload 5, 2) := by decide +kernel
theorem dX7_put_154 : decode cX7_put 154 = .ok (.invokevirtual 179, 3) := by decide +kernel
theorem dX7_put_157 : decode cX7_put 157 = .ok (.ifCond .ne 24, 3) := by decide +kernel
theorem dX7_put_160 : decode cX7_put 160 = .ok (.aload_n 0, 1) := by decide +kernel
theorem dX7_put_161 : decode cX7_put 161 = .ok (.iload_n 2, 1) := by decide +kernel
theorem dX7_put_162 : decode cX7_put 162 = .ok (.iload_n 3, 1) := by decide +kernel
theorem dX7_put_163 : decode cX7_put 163 = .ok (.iconst 1, 1) := by decide +kernel
theorem dX7_put_164 : decode cX7_put 164 = .ok (.iload 6, 2) := by decide +kernel
theorem dX7_put_166 : decode cX7_put 166 = .ok (.invokevirtual 179, 3) := by decide +kernel
theorem dX7_put_169 : decode cX7_put 169 = .ok (.ifCond .ne 12, 3) := by decide +kernel
theorem dX7_put_172 : decode cX7_put 172 = .ok (.iload 10, 2) := by decide +kernel
theorem dX7_put_174 : decode cX7_put 174 = .ok (.ifCond .ne 7, 3) := by decide +kernel
theorem dX7_put_177 : decode cX7_put 177 = .ok (.iconst 1, 1) := by decide +kernel
theorem dX7_put_178 : decode cX7_put 178 = .ok (.goto 4, 3) := by decide +kernel
theorem dX7_put_181 : decode cX7_put 181 = .ok (.iconst 0, 1) := by decide +kernel
theorem dX7_put_182 : decode cX7_put 182 = .ok (.istore 11, 2) := by decide +kernel
theorem dX7_put_184 : decode cX7_put 184 = .ok (.aload_n 0, 1) := by decide +kernel
theorem dX7_put_185 : decode cX7_put 185 = .ok (.iload 7, 2) := by decide +kernel
theorem dX7_put_187 : decode cX7_put 187 = .ok (.ifCond .ne 7, 3) := by decide +kernel
theorem dX7_put_190 : decode cX7_put 190 = .ok (.iconst 1, 1) := by decide +kernel
theorem dX7_put_191 : decode cX7_put 191 = .ok (.goto 22, 3) := by decide +kernel
theorem dX7_put_194 : decode cX7_put 194 = .ok (.iload 8, 2) := by decide +kernel
theorem dX7_put_196 : decode cX7_put 196 = .ok (.ifCond .ne 7, 3) := by decide +kernel
theorem dX7_put_199 : decode cX7_put 199 = .ok (.iconst 2, 1) := by decide +kernel
theorem dX7_put_200 : decode cX7_put 200 = .ok (.goto 13, 3) := by decide +kernel
theorem dX7_put_203 : decode cX7_put 203 = .ok (.iload 11, 2) := by decide +kernel
theorem dX7_put_205 : decode cX7_put 205 = .ok (.ifCond .eq 7, 3) := by decide +kernel
theorem dX7_put_208 : decode cX7_put 208 = .ok (.iconst 0, 1) := by decide +kernel
theorem dX7_put_209 : decode cX7_put 209 = .ok (.goto 4, 3) := by decide +kernel
theorem dX7_put_212 : decode cX7_put 212 = .ok (.iconst 3, 1) := by decide +kernel
theorem dX7_put_213 : decode cX7_put 213 = .ok (.invokevirtual 137, 3) := by decide +kernel
theorem dX7_put_216 : decode cX7_put 216 = .ok (.ifCond .eq 5, 3) := by decide +kernel
theorem dX7_put_219 : decode cX7_put 219 = .ok (.iconst 0, 1) := by decide +kernel
theorem dX7_put_220 : decode cX7_put 220 = .ok (.ireturn, 1) := by decide +kernel
theorem dX7_put_221 : decode cX7_put 221 = .ok (.iload 9, 2) := by decide +kernel
theorem dX7_put_223 : decode cX7_put 223 = .ok (.istore 12, 2) := by decide +kernel
theorem dX7_put_225 : decode cX7_put 225 = .ok (.iload 9, 2) := by decide +kernel
theorem dX7_put_227 : decode cX7_put 227 = .ok (.iconst (-1), 1) := by decide +kernel
theorem dX7_put_228 : decode cX7_put 228 = .ok (.if_icmp .ne 26, 3) := by decide +kernel
theorem dX7_put_231 : decode cX7_put 231 = .ok (.bipush 40, 2) := by decide +kernel
theorem dX7_put_233 : decode cX7_put 233 = .ok (.iload_n 2, 1) := by decide +kernel
theorem dX7_put_234 : decode cX7_put 234 = .ok (.imul, 1) := by decide +kernel
theorem dX7_put_235 : decode cX7_put 235 = .ok (.aload_n 0, 1) := by decide +kernel
theorem dX7_put_236 : decode cX7_put 236 = .ok (.getfield 30, 3) := by decide +kernel
theorem dX7_put_239 : decode cX7_put 239 = .ok (.iload_n 2, 1) := by decide +kernel
theorem dX7_put_240 : decode cX7_put 240 = .ok (.iaload, 1) := by decide +kernel
theorem dX7_put_241 : decode cX7_put 241 = .ok (.iadd, 1) := by decide +kernel
theorem dX7_put_242 : decode cX7_put 242 = .ok (.istore 12, 2) := by decide +kernel
theorem dX7_put_244 : decode cX7_put 244 = .ok (.aload_n 0, 1) := by decide +kernel
theorem dX7_put_245 : decode cX7_put 245 = .ok (.getfield 30, 3) := by decide +kernel
theorem dX7_put_248 : decode cX7_put 248 = .ok (.iload_n 2, 1) := by decide +kernel
theorem dX7_put_249 : decode cX7_put 249 = .ok (.dup2, 1) := by decide +kernel
theorem dX7_put_250 : decode cX7_put 250 = .ok (.iaload, 1) := by decide +kernel
theorem dX7_put_251 : decode cX7_put 251 = .ok (.iconst 1, 1) := by decide +kernel
theorem dX7_put_252 : decode cX7_put 252 = .ok (.iadd, 1) := by decide +kernel
theorem dX7_put_253 : decode cX7_put 253 = .ok (.iastore, 1) := by decide +kernel
theorem dX7_put_254 : decode cX7_put 254 = .ok (.aload_n 0, 1) := by decide +kernel
theorem dX7_put_255 : decode cX7_put 255 = .ok (.getfield 33, 3) := by decide +kernel
theorem dX7_put_258 : decode cX7_put 258 = .ok (.iload 12, 2) := by decide +kernel
theorem dX7_put_260 : decode cX7_put 260 = .ok (.iload_n 3, 1) := by decide +kernel
theorem dX7_put_261 : decode cX7_put 261 = .ok (.iastore, 1) := by decide +kernel
theorem dX7_put_262 : decode cX7_put 262 = .ok (.aload_n 0, 1) := by decide +kernel
theorem dX7_put_263 : decode cX7_put 263 = .ok (.getfield 36, 3) := by decide +kernel
theorem dX7_put_266 : decode cX7_put 266 = .ok (.iload 12, 2) := by decide +kernel
theorem dX7_put_268 : decode cX7_put 268 = .ok (.iload 4, 2) := by decide +kernel
theorem dX7_put_270 : decode cX7_put 270 = .ok (.iastore, 1) := by decide +kernel
theorem dX7_put_271 : decode cX7_put 271 = .ok (.aload_n 0, 1) := by decide +kernel
theorem dX7_put_272 : decode cX7_put 272 = .ok (.getfield 39, 3) := by decide +kernel
theorem dX7_put_275 : decode cX7_put 275 = .ok (.iconst 2, 1) := by decide +kernel
theorem dX7_put_276 : decode cX7_put 276 = .ok (.iload 12, 2) := by decide +kernel
theorem dX7_put_278 : decode cX7_put 278 = .ok (.imul, 1) := by decide +kernel
theorem dX7_put_279 : decode cX7_put 279 = .ok (.iload 5, 2) := by decide +kernel
theorem dX7_put_281 : decode cX7_put 281 = .ok (.iastore, 1) := by decide +kernel
theorem dX7_put_282 : decode cX7_put 282 = .ok (.aload_n 0, 1) := by decide +kernel
theorem dX7_put_283 : decode cX7_put 283 = .ok (.getfield 39, 3) := by decide +kernel
theorem dX7_put_286 : decode cX7_put 286 = .ok (.iconst 2, 1) := by decide +kernel
theorem dX7_put_287 : decode cX7_put 287 = .ok (.iload 12, 2) := by decide +kernel
theorem dX7_put_289 : decode cX7_put 289 = .ok (.imul, 1) := by decide +kernel
theorem dX7_put_290 : decode cX7_put 290 = .ok (.iconst 1, 1) := by decide +kernel
theorem dX7_put_291 : decode cX7_put 291 = .ok (.iadd, 1) := by decide +kernel
theorem dX7_put_292 : decode cX7_put 292 = .ok (.iload 6, 2) := by decide +kernel
theorem dX7_put_294 : decode cX7_put 294 = .ok (.iastore, 1) := by decide +kernel
theorem dX7_put_295 : decode cX7_put 295 = .ok (.iload 9, 2) := by decide +kernel
theorem dX7_put_297 : decode cX7_put 297 = .ok (.iconst (-1), 1) := by decide +kernel
theorem dX7_put_298 : decode cX7_put 298 = .ok (.if_icmp .ne 7, 3) := by decide +kernel
theorem dX7_put_301 : decode cX7_put 301 = .ok (.iconst 1, 1) := by decide +kernel
theorem dX7_put_302 : decode cX7_put 302 = .ok (.goto 4, 3) := by decide +kernel
theorem dX7_put_305 : decode cX7_put 305 = .ok (.iconst 0, 1) := by decide +kernel
theorem dX7_put_306 : decode cX7_put 306 = .ok (.ireturn, 1) := by decide +kernel
set_option maxRecDepth 20000 in
theorem ggX7_isBetween_X7_rank : GoodIn wsX7_isBetween wsX7_rank := goodIn_r _ [4, 5] (by decide +kernel) (by decide +kernel)
set_option maxRecDepth 20000 in
theorem gX7_isBetween_X7_rank : GoodIn wsX7_isBetween (va_wsS RX7 183 yX7_rank wsX7_rank) := goodIn_app (goodIn_of _ (by decide +kernel)) ggX7_isBetween_X7_rank
theorem dX7_isBetween_0 : decode cX7_isBetween 0 = .ok (.iload_n 0, 1) := by decide +kernel
theorem dX7_isBetween_1 : decode cX7_isBetween 1 = .ok (.invokestatic 183, 3) := by decide +kernel
theorem dX7_isBetween_4 : decode cX7_isBetween 4 = .ok (.iload_n 1, 1) := by decide +kernel
theorem dX7_isBetween_5 : decode cX7_isBetween 5 = .ok (.invokestatic 183, 3) := by decide +kernel
theorem dX7_isBetween_8 : decode cX7_isBetween 8 = .ok (.if_icmp .lt 18, 3) := by decide +kernel
theorem dX7_isBetween_11 : decode cX7_isBetween 11 = .ok (.iload_n 0, 1) := by decide +kernel
theorem dX7_isBetween_12 : decode cX7_isBetween 12 = .ok (.invokestatic 183, 3) := by decide +kernel
theorem dX7_isBetween_15 : decode cX7_isBetween 15 = .ok (.iload_n 2, 1) := by decide +kernel
theorem dX7_isBetween_16 : decode cX7_isBetween 16 = .ok (.invokestatic 183, 3) := by decide +kernel
theorem dX7_isBetween_19 : decode cX7_isBetween 19 = .ok (.if_icmp .gt 7, 3) := by decide +kernel
theorem dX7_isBetween_22 : decode cX7_isBetween 22 = .ok (.iconst 1, 1) := by decide +kernel
theorem dX7_isBetween_23 : decode cX7_isBetween 23 = .ok (.goto 4, 3) := by decide +kernel
theorem dX7_isBetween_26 : decode cX7_isBetween 26 = .ok (.iconst 0, 1) := by decide +kernel
theorem dX7_isBetween_27 : decode cX7_isBetween 27 = .ok (.ireturn, 1) := by decide +kernel
set_option maxRecDepth 20000 in
theorem ggX7_misses_X7_isTransaction : GoodIn wsX7_misses wsX7_isTransaction := goodIn_r _ [5, 6, 7, 8, 4, 9, 28, 29, 30, 31, 32, 33, 34, 35, 36, 37, 38, 39, 40, 41, 42, 43, 44, 45, 46, 47, 48, 49, 50, 51, 52, 53, 54, 55, 56, 57, 58, 59] (by decide +kernel) (by decide +kernel)
set_option maxRecDepth 20000 in
theorem gX7_misses_X7_isTransaction : GoodIn wsX7_misses (wsV RX7 158 RX7 yX7_isTransaction wsX7_isTransaction) := goodIn_app (goodIn_of _ (by decide +kernel)) ggX7_misses_X7_isTransaction
set_option maxRecDepth 20000 in
theorem ggX7_misses_X7_isStore : GoodIn wsX7_misses wsX7_isStore := goodIn_r _ [13, 14, 7, 8, 4, 9, 28, 29, 30, 31, 32, 33, 34, 35, 36, 37, 38, 39, 40, 41, 42, 43, 44, 45, 46, 47, 48, 49, 50, 51, 52, 53, 54, 55, 56, 57, 58, 59] (by decide +kernel) (by decide +kernel)
set_option maxRecDepth 20000 in
theorem gX7_misses_X7_isStore : GoodIn wsX7_misses (wsV RX7 161 RX7 yX7_isStore wsX7_isStore) := goodIn_app (goodIn_of _ (by decide +kernel)) ggX7_misses_X7_isStore
set_option maxRecDepth 20000 in
theorem ggX7_misses_X7_isKey : GoodIn wsX7_misses wsX7_isKey := goodIn_r _ [17, 18, 19, 20, 7, 8, 4, 9] (by decide +kernel) (by decide +kernel)
set_option maxRecDepth 20000 in
theorem gX7_misses_X7_isKey : GoodIn wsX7_misses (va_wsS RX7 168 yX7_isKey wsX7_isKey) := goodIn_app (goodIn_of _ (by decide +kernel)) ggX7_misses_X7_isKey
set_option maxRecDepth 20000 in
theorem ggX7_misses_X7_can : GoodIn wsX7_misses wsX7_can := goodIn_r _ [24, 25, 26, 27, 28, 29, 30, 31, 32, 33, 34, 35, 36, 37, 38, 39, 40, 41, 42, 43, 44, 45, 46, 47, 48, 49, 50, 51, 52, 53, 54, 55, 56, 57, 58, 59] (by decide +kernel) (by decide +kernel)
set_option maxRecDepth 20000 in
theorem gX7_misses_X7_can : GoodIn wsX7_misses (wsV RX7 175 RX7 yX7_can wsX7_can) := goodIn_app (goodIn_of _ (by decide +kernel)) ggX7_misses_X7_can
theorem dX7_misses_0 : decode cX7_misses 0 = .ok (.aload_n 0, 1) := by decide +kernel
theorem dX7_misses_1 : decode cX7_misses 1 = .ok (.iload_n 1, 1) := by decide +kernel
theorem dX7_misses_2 : decode cX7_misses 2 = .ok (.invokevirtual 158, 3) := by decide +kernel
theorem dX7_misses_5 : decode cX7_misses 5 = .ok (.ifCond .eq 15, 3) := by decide +kernel
theorem dX7_misses_8 : decode cX7_misses 8 = .ok (.aload_n 0, 1) := by decide +kernel
theorem dX7_misses_9 : decode cX7_misses 9 = .ok (.iload_n 2, 1) := by decide +kernel
theorem dX7_misses_10 : decode cX7_misses 10 = .ok (.invokevirtual 161, 3) := by decide +kernel
theorem dX7_misses_13 : decode cX7_misses 13 = .ok (.ifCond .eq 7, 3) := by decide +kernel
theorem dX7_misses_16 : decode cX7_misses 16 = .ok (.iconst 1, 1) := by decide +kernel
theorem dX7_misses_17 : decode cX7_misses 17 = .ok (.goto 4, 3) := by decide +kernel
theorem dX7_misses_20 : decode cX7_misses 20 = .ok (.iconst 0, 1) := by decide +kernel
theorem dX7_misses_21 : decode cX7_misses 21 = .ok (.istore 6, 2) := by decide +kernel
theorem dX7_misses_23 : decode cX7_misses 23 = .ok (.iload 6, 2) := by decide +kernel
theorem dX7_misses_25 : decode cX7_misses 25 = .ok (.ifCond .ne 7, 3) := by decide +kernel
theorem dX7_misses_28 : decode cX7_misses 28 = .ok (.iconst 1, 1) := by decide +kernel
theorem dX7_misses_29 : decode cX7_misses 29 = .ok (.goto 38, 3) := by decide +kernel
theorem dX7_misses_32 : decode cX7_misses 32 = .ok (.iload_n 3, 1) := by decide +kernel
theorem dX7_misses_33 : decode cX7_misses 33 = .ok (.invokestatic 168, 3) := by decide +kernel
theorem dX7_misses_36 : decode cX7_misses 36 = .ok (.ifCond .eq 11, 3) := by decide +kernel
theorem dX7_misses_39 : decode cX7_misses 39 = .ok (.iload 4, 2) := by decide +kernel
theorem dX7_misses_41 : decode cX7_misses 41 = .ok (.invokestatic 168, 3) := by decide +kernel
theorem dX7_misses_44 : decode cX7_misses 44 = .ok (.ifCond .ne 7, 3) := by decide +kernel
theorem dX7_misses_47 : decode cX7_misses 47 = .ok (.iconst 2, 1) := by decide +kernel
theorem dX7_misses_48 : decode cX7_misses 48 = .ok (.goto 19, 3) := by decide +kernel
theorem dX7_misses_51 : decode cX7_misses 51 = .ok (.aload_n 0, 1) := by decide +kernel
theorem dX7_misses_52 : decode cX7_misses 52 = .ok (.iload_n 1, 1) := by decide +kernel
theorem dX7_misses_53 : decode cX7_misses 53 = .ok (.iload_n 2, 1) := by decide +kernel
theorem dX7_misses_54 : decode cX7_misses 54 = .ok (.iload 5, 2) := by decide +kernel
theorem dX7_misses_56 : decode cX7_misses 56 = .ok (.invokevirtual 175, 3) := by decide +kernel
theorem dX7_misses_59 : decode cX7_misses 59 = .ok (.ifCond .eq 7, 3) := by decide +kernel
theorem dX7_misses_62 : decode cX7_misses 62 = .ok (.iconst 0, 1) := by decide +kernel
theorem dX7_misses_63 : decode cX7_misses 63 = .ok (.goto 4, 3) := by decide +kernel
theorem dX7_misses_66 : decode cX7_misses 66 = .ok (.iconst 3, 1) := by decide +kernel
theorem dX7_misses_67 : decode cX7_misses 67 = .ok (.ireturn, 1) := by decide +kernel
set_option maxRecDepth 20000 in
theorem ggX7_remove_X7_misses : GoodIn wsX7_remove wsX7_misses := goodIn_r _ [9, 10, 11, 12, 8, 13, 14, 15, 16, 17, 18, 19, 20, 21, 22, 23, 24, 25, 26, 27, 28, 29, 30, 31, 32, 33, 34, 35, 47, 48, 49, 50, 51, 52, 53, 54, 55, 56, 57, 58, 59, 60, 61, 62, 63, 64, 65, 66, 67, 68, 69, 70, 71, 72, 73, 74, 75, 76, 77, 78] (by decide +kernel) (by decide +kernel)
set_option maxRecDepth 20000 in
theorem gX7_remove_X7_misses : GoodIn wsX7_remove (wsV RX7 187 RX7 yX7_misses wsX7_misses) := goodIn_app (goodIn_of _ (by decide +kernel)) ggX7_remove_X7_misses
set_option maxRecDepth 20000 in
theorem ggX7_remove_X7_fails : GoodIn wsX7_remove wsX7_fails := goodIn_r _ [39, 40, 47, 48, 49, 50, 51, 52, 53, 54, 55, 56, 57, 58, 59, 60, 61, 62, 63, 64, 65, 66, 67, 68, 69, 70, 71, 72, 73, 74, 75, 76, 77, 78] (by decide +kernel) (by decide +kernel)
set_option maxRecDepth 20000 in
theorem gX7_remove_X7_fails : GoodIn wsX7_remove (wsV RX7 137 RX7 yX7_fails wsX7_fails) := goodIn_app (goodIn_of _ (by decide +kernel)) ggX7_remove_X7_fails
set_option maxRecDepth 20000 in
theorem ggX7_remove_X7_isBetween : GoodIn wsX7_remove wsX7_isBetween := goodIn_r _ [43, 44, 45, 8, 46, 26] (by decide +kernel) (by decide +kernel)
set_option maxRecDepth 20000 in
theorem gX7_remove_X7_isBetween : GoodIn wsX7_remove (va_wsS RX7 191 yX7_isBetween wsX7_isBetween) := goodIn_app (goodIn_of _ (by decide +kernel)) ggX7_remove_X7_isBetween
theorem dX7_remove_0 : decode cX7_remove 0 = .ok (.aload_n 0, 1) := by decide +kernel
theorem dX7_remove_1 : decode cX7_remove 1 = .ok (.aload_n 0, 1) := by decide +kernel
theorem dX7_remove_2 : decode cX7_remove 2 = .ok (.iload_n 1, 1) := by decide +kernel
theorem dX7_remove_3 : decode cX7_remove 3 = .ok (.iload_n 2, 1) := by decide +kernel
theorem dX7_remove_4 : decode cX7_remove 4 = .ok (.iload_n 3, 1) := by decide +kernel
theorem dX7_remove_5 : decode cX7_remove 5 = .ok (.iload 4, 2) := by decide +kernel
theorem dX7_remove_7 : decode cX7_remove 7 = .ok (.iconst 1, 1) := by decide +kernel
theorem dX7_remove_8 : decode cX7_remove 8 = .ok (.invokevirtual 187, 3) := by decide +kernel
theorem dX7_remove_11 : decode cX7_remove 11 = .ok (.invokevirtual 137, 3) := by decide +kernel
theorem dX7_remove_14 : decode cX7_remove 14 = .ok (.ifCond .eq 5, 3) := by decide +kernel
theorem dX7_remove_17 : decode cX7_remove 17 = .ok (.iconst 0, 1) := by decide +kernel
theorem dX7_remove_18 : decode cX7_remove 18 = .ok (.ireturn, 1) := by decide +kernel
theorem dX7_remove_19 : decode cX7_remove 19 = .ok (.bipush 40, 2) := by decide +kernel
theorem dX7_remove_21 : decode cX7_remove 21 = .ok (.iload_n 2, 1) := by decide +kernel
theorem dX7_remove_22 : decode cX7_remove 22 = .ok (.imul, 1) := by decide +kernel
theorem dX7_remove_23 : decode cX7_remove 23 = .ok (.istore 5, 2) := by decide +kernel
theorem dX7_remove_25 : decode cX7_remove 25 = .ok (.bipush 40, 2) := by decide +kernel
theorem dX7_remove_27 : decode cX7_remove 27 = .ok (.iload_n 2, 1) := by decide +kernel
theorem dX7_remove_28 : decode cX7_remove 28 = .ok (.imul, 1) := by decide +kernel
theorem dX7_remove_29 : decode cX7_remove 29 = .ok (.istore 6, 2) := by decide +kernel
theorem dX7_remove_31 : decode cX7_remove 31 = .ok (.iload 6, 2) := by decide +kernel
theorem dX7_remove_33 : decode cX7_remove 33 = .ok (.bipush 40, 2) := by decide +kernel
theorem dX7_remove_35 : decode cX7_remove 35 = .ok (.iload_n 2, 1) := by decide +kernel
theorem dX7_remove_36 : decode cX7_remove 36 = .ok (.imul, 1) := by decide +kernel
theorem dX7_remove_37 : decode cX7_remove 37 = .ok (.aload_n 0, 1) := by decide +kernel
theorem dX7_remove_38 : decode cX7_remove 38 = .ok (.getfield 30, 3) := by decide +kernel
theorem dX7_remove_41 : decode cX7_remove 41 = .ok (.iload_n 2, 1) := by decide +kernel
theorem dX7_remove_42 : decode cX7_remove 42 = .ok (.iaload, 1) := by decide +kernel
theorem dX7_remove_43 : decode cX7_remove 43 = .ok (.iadd, 1) := by decide +kernel
theorem dX7_remove_44 : decode cX7_remove 44 = .ok (.if_icmp .ge 96, 3) := by decide +kernel
theorem dX7_remove_47 : decode cX7_remove 47 = .ok (.aload_n 0, 1) := by decide +kernel
theorem dX7_remove_48 : decode cX7_remove 48 = .ok (.getfield 33, 3) := by decide +kernel
theorem dX7_remove_51 : decode cX7_remove 51 = .ok (.iload 6, 2) := by decide +kernel
theorem dX7_remove_53 : decode cX7_remove 53 = .ok (.iaload, 1) := by decide +kernel
theorem dX7_remove_54 : decode cX7_remove 54 = .ok (.iload_n 3, 1) := by decide +kernel
theorem dX7_remove_55 : decode cX7_remove 55 = .ok (.iload 4, 2) := by decide +kernel
theorem dX7_remove_57 : decode cX7_remove 57 = .ok (.invokestatic 191, 3) := by decide +kernel
theorem dX7_remove_60 : decode cX7_remove 60 = .ok (.ifCond .ne 74, 3) := by decide +kernel
theorem dX7_remove_63 : decode cX7_remove 63 = .ok (.aload_n 0, 1) := by decide +kernel
theorem dX7_remove_64 : decode cX7_remove 64 = .ok (.getfield 33, 3) := by decide +kernel
theorem dX7_remove_67 : decode cX7_remove 67 = .ok (.iload 5, 2) := by decide +kernel
theorem dX7_remove_69 : decode cX7_remove 69 = .ok (.aload_n 0, 1) := by decide +kernel
theorem dX7_remove_70 : decode cX7_remove 70 = .ok (.getfield 33, 3) := by decide +kernel
theorem dX7_remove_73 : decode cX7_remove 73 = .ok (.iload 6, 2) := by decide +kernel
theorem dX7_remove_75 : decode cX7_remove 75 = .ok (.iaload, 1) := by decide +kernel
theorem dX7_remove_76 : decode cX7_remove 76 = .ok (.iastore, 1) := by decide +kernel
theorem dX7_remove_77 : decode cX7_remove 77 = .ok (.aload_n 0, 1) := by decide +kernel
theorem dX7_remove_78 : decode cX7_remove 78 = .ok (.getfield 36, 3) := by decide +kernel
theorem dX7_remove_81 : decode cX7_remove 81 = .ok (.iload 5, 2) := by decide +kernel
theorem dX7_remove_83 : decode cX7_remove 83 = .ok (.aload_n 0, 1) := by decide +kernel
theorem dX7_remove_84 : decode cX7_remove 84 = .ok (.getfield 36, 3) := by decide +kernel
theorem dX7_remove_87 : decode cX7_remove 87 = .ok (.iload 6, 2) := by decide +kernel
theorem dX7_remove_89 : decode cX7_remove 89 = .ok (.iaload, 1) := by decide +kernel
theorem dX7_remove_90 : decode cX7_remove 90 = .ok (.iastore, 1) := by decide +kernel
theorem dX7_remove_91 : decode cX7_remove 91 = .ok (.aload_n 0, 1) := by decide +kernel
theorem dX7_remove_92 : decode cX7_remove 92 = .ok (.getfield 39, 3) := by decide +kernel
theorem dX7_remove_95 : decode cX7_remove 95 = .ok (.iconst 2, 1) := by decide +kernel
theorem dX7_remove_96 : decode cX7_remove 96 = .ok (.iload 5, 2) := by decide +kernel
theorem dX7_remove_98 : decode cX7_remove 98 = .ok (.imul, 1) := by decide +kernel
theorem dX7_remove_99 : decode cX7_remove 99 = .ok (.aload_n 0, 1) := by decide +kernel
theorem dX7_remove_100 : decode cX7_remove 100 = .ok (.getfield 39, 3) := by decide +kernel
theorem dX7_remove_103 : decode cX7_remove 103 = .ok (.iconst 2, 1) := by decide +kernel
theorem dX7_remove_104 : decode cX7_remove 104 = .ok (.iload 6, 2) := by decide +kernel
theorem dX7_remove_106 : decode cX7_remove 106 = .ok (.imul, 1) := by decide +kernel
theorem dX7_remove_107 : decode cX7_remove 107 = .ok (.iaload, 1) := by decide +kernel
theorem dX7_remove_108 : decode cX7_remove 108 = .ok (.iastore, 1) := by decide +kernel
theorem dX7_remove_109 : decode cX7_remove 109 = .ok (.aload_n 0, 1) := by decide +kernel
theorem dX7_remove_110 : decode cX7_remove 110 = .ok (.getfield 39, 3) := by decide +kernel
theorem dX7_remove_113 : decode cX7_remove 113 = .ok (.iconst 2, 1) := by decide +kernel
theorem dX7_remove_114 : decode cX7_remove 114 = .ok (.iload 5, 2) := by decide +kernel
theorem dX7_remove_116 : decode cX7_remove 116 = .ok (.imul, 1) := by decide +kernel
theorem dX7_remove_117 : decode cX7_remove 117 = .ok (.iconst 1, 1) := by decide +kernel
theorem dX7_remove_118 : decode cX7_remove 118 = .ok (.iadd, 1) := by decide +kernel
theorem dX7_remove_119 : decode cX7_remove 119 = .ok (.aload_n 0, 1) := by decide +kernel
theorem dX7_remove_120 : decode cX7_remove 120 = .ok (.getfield 39, 3) := by decide +kernel
theorem dX7_remove_123 : decode cX7_remove 123 = .ok (.iconst 2, 1) := by decide +kernel
theorem dX7_remove_124 : decode cX7_remove 124 = .ok (.iload 6, 2) := by decide +kernel
theorem dX7_remove_126 : decode cX7_remove 126 = .ok (.imul, 1) := by decide +kernel
theorem dX7_remove_127 : decode cX7_remove 127 = .ok (.iconst 1, 1) := by decide +kernel
theorem dX7_remove_128 : decode cX7_remove 128 = .ok (.iadd, 1) := by decide +kernel
theorem dX7_remove_129 : decode cX7_remove 129 = .ok (.iaload, 1) := by decide +kernel
theorem dX7_remove_130 : decode cX7_remove 130 = .ok (.iastore, 1) := by decide +kernel
theorem dX7_remove_131 : decode cX7_remove 131 = .ok (.iinc 5 1, 3) := by decide +kernel
theorem dX7_remove_134 : decode cX7_remove 134 = .ok (.iinc 6 1, 3) := by decide +kernel
theorem dX7_remove_137 : decode cX7_remove 137 = .ok (.goto (-106), 3) := by decide +kernel
theorem dX7_remove_140 : decode cX7_remove 140 = .ok (.bipush 40, 2) := by decide +kernel
theorem dX7_remove_142 : decode cX7_remove 142 = .ok (.iload_n 2, 1) := by decide +kernel
theorem dX7_remove_143 : decode cX7_remove 143 = .ok (.imul, 1) := by decide +kernel
theorem dX7_remove_144 : decode cX7_remove 144 = .ok (.aload_n 0, 1) := by decide +kernel
theorem dX7_remove_145 : decode cX7_remove 145 = .ok (.getfield 30, 3) := by decide +kernel
theorem dX7_remove_148 : decode cX7_remove 148 = .ok (.iload_n 2, 1) := by decide +kernel
theorem dX7_remove_149 : decode cX7_remove 149 = .ok (.iaload, 1) := by decide +kernel
theorem dX7_remove_150 : decode cX7_remove 150 = .ok (.iadd, 1) := by decide +kernel
theorem dX7_remove_151 : decode cX7_remove 151 = .ok (.iload 5, 2) := by decide +kernel
theorem dX7_remove_153 : decode cX7_remove 153 = .ok (.isub, 1) := by decide +kernel
theorem dX7_remove_154 : decode cX7_remove 154 = .ok (.istore 6, 2) := by decide +kernel
theorem dX7_remove_156 : decode cX7_remove 156 = .ok (.aload_n 0, 1) := by decide +kernel
theorem dX7_remove_157 : decode cX7_remove 157 = .ok (.getfield 30, 3) := by decide +kernel
theorem dX7_remove_160 : decode cX7_remove 160 = .ok (.iload_n 2, 1) := by decide +kernel
theorem dX7_remove_161 : decode cX7_remove 161 = .ok (.dup2, 1) := by decide +kernel
theorem dX7_remove_162 : decode cX7_remove 162 = .ok (.iaload, 1) := by decide +kernel
theorem dX7_remove_163 : decode cX7_remove 163 = .ok (.iload 6, 2) := by decide +kernel
theorem dX7_remove_165 : decode cX7_remove 165 = .ok (.isub, 1) := by decide +kernel
theorem dX7_remove_166 : decode cX7_remove 166 = .ok (.iastore, 1) := by decide +kernel
theorem dX7_remove_167 : decode cX7_remove 167 = .ok (.iload 6, 2) := by decide +kernel
theorem dX7_remove_169 : decode cX7_remove 169 = .ok (.ireturn, 1) := by decide +kernel
set_option maxRecDepth 20000 in
theorem ggX7_get_X7_misses : GoodIn wsX7_get wsX7_misses := goodIn_r _ [6, 7, 8, 9, 5, 10, 11, 12, 13, 14, 15, 16, 17, 18, 19, 20, 21, 22, 23, 24, 25, 26, 27, 28, 29, 30, 31, 32, 44, 45, 46, 47, 48, 49, 50, 51, 52, 53, 54, 55, 56, 57, 58, 59, 60, 61, 62, 63, 64, 65, 66, 67, 68, 69, 70, 71, 72, 73, 74, 75] (by decide +kernel) (by decide +kernel)
set_option maxRecDepth 20000 in
theorem gX7_get_X7_misses : GoodIn wsX7_get (wsV RX7 187 RX7 yX7_misses wsX7_misses) := goodIn_app (goodIn_of _ (by decide +kernel)) ggX7_get_X7_misses
set_option maxRecDepth 20000 in
theorem ggX7_get_X7_fails : GoodIn wsX7_get wsX7_fails := goodIn_r _ [36, 37, 44, 45, 46, 47, 48, 49, 50, 51, 52, 53, 54, 55, 56, 57, 58, 59, 60, 61, 62, 63, 64, 65, 66, 67, 68, 69, 70, 71, 72, 73, 74, 75] (by decide +kernel) (by decide +kernel)
set_option maxRecDepth 20000 in
theorem gX7_get_X7_fails : GoodIn wsX7_get (wsV RX7 137 RX7 yX7_fails wsX7_fails) := goodIn_app (goodIn_of _ (by decide +kernel)) ggX7_get_X7_fails
set_option maxRecDepth 20000 in
theorem ggX7_get_X7_find : GoodIn wsX7_get wsX7_find := goodIn_r _ [41, 42, 43, 44, 45, 46, 47, 48, 49, 50, 51, 52, 53, 54, 55, 56, 57, 58, 59, 60, 61, 62, 63, 64, 65, 66, 67, 68, 69, 70, 71, 72, 73, 74, 75] (by decide +kernel) (by decide +kernel)
set_option maxRecDepth 20000 in
theorem gX7_get_X7_find : GoodIn wsX7_get (wsV RX7 171 RX7 yX7_find wsX7_find) := goodIn_app (goodIn_of _ (by decide +kernel)) ggX7_get_X7_find
theorem dX7_get_0 : decode cX7_get 0 = .ok (.aload_n 0, 1) := by decide +kernel
theorem dX7_get_1 : decode cX7_get 1 = .ok (.aload_n 0, 1) := by decide +kernel
theorem dX7_get_2 : decode cX7_get 2 = .ok (.iload_n 1, 1) := by decide +kernel
theorem dX7_get_3 : decode cX7_get 3 = .ok (.iload_n 2, 1) := by decide +kernel
theorem dX7_get_4 : decode cX7_get 4 = .ok (.iload_n 3, 1) := by decide +kernel
theorem dX7_get_5 : decode cX7_get 5 = .ok (.iload_n 3, 1) := by decide +kernel
theorem dX7_get_6 : decode cX7_get 6 = .ok (.iconst 0, 1) := by decide +kernel
theorem dX7_get_7 : decode cX7_get 7 = .ok (.invokevirtual 187, 3) := by decide +kernel
theorem dX7_get_10 : decode cX7_get 10 = .ok (.invokevirtual 137, 3) := by decide +kernel
theorem dX7_get_13 : decode cX7_get 13 = .ok (.ifCond .eq 5, 3) := by decide +kernel
theorem dX7_get_16 : decode cX7_get 16 = .ok (.iconst 0, 1) := by decide +kernel
theorem dX7_get_17 : decode cX7_get 17 = .ok (.ireturn, 1) := by decide +kernel
theorem dX7_get_18 : decode cX7_get 18 = .ok (.aload_n 0, 1) := by decide +kernel
theorem dX7_get_19 : decode cX7_get 19 = .ok (.iload_n 2, 1) := by decide +kernel
theorem dX7_get_20 : decode cX7_get 20 = .ok (.iload_n 3, 1) := by decide +kernel
theorem dX7_get_21 : decode cX7_get 21 = .ok (.invokevirtual 171, 3) := by decide +kernel
theorem dX7_get_24 : decode cX7_get 24 = .ok (.istore 4, 2) := by decide +kernel
theorem dX7_get_26 : decode cX7_get 26 = .ok (.iload 4, 2) := by decide +kernel
theorem dX7_get_28 : decode cX7_get 28 = .ok (.iconst (-1), 1) := by decide +kernel
theorem dX7_get_29 : decode cX7_get 29 = .ok (.if_icmp .ne 7, 3) := by decide +kernel
theorem dX7_get_32 : decode cX7_get 32 = .ok (.iconst (-1), 1) := by decide +kernel
theorem dX7_get_33 : decode cX7_get 33 = .ok (.goto 10, 3) := by decide +kernel
theorem dX7_get_36 : decode cX7_get 36 = .ok (.aload_n 0, 1) := by decide +kernel
theorem dX7_get_37 : decode cX7_get 37 = .ok (.getfield 36, 3) := by decide +kernel
theorem dX7_get_40 : decode cX7_get 40 = .ok (.iload 4, 2) := by decide +kernel
theorem dX7_get_42 : decode cX7_get 42 = .ok (.iaload, 1) := by decide +kernel
theorem dX7_get_43 : decode cX7_get 43 = .ok (.ireturn, 1) := by decide +kernel
set_option maxRecDepth 20000 in
theorem ggX7_count_X7_misses : GoodIn wsX7_count wsX7_misses := goodIn_r _ [7, 8, 9, 10, 6, 11, 12, 13, 14, 15, 16, 17, 18, 19, 20, 21, 22, 23, 24, 25, 26, 27, 28, 29, 30, 31, 32, 33, 45, 46, 47, 48, 49, 50, 51, 52, 53, 54, 55, 56, 57, 58, 59, 60, 61, 62, 63, 64, 65, 66, 67, 68, 69, 70, 71, 72, 73, 74, 75, 76] (by decide +kernel) (by decide +kernel)
set_option maxRecDepth 20000 in
theorem gX7_count_X7_misses : GoodIn wsX7_count (wsV RX7 187 RX7 yX7_misses wsX7_misses) := goodIn_app (goodIn_of _ (by decide +kernel)) ggX7_count_X7_misses
set_option maxRecDepth 20000 in
theorem ggX7_count_X7_fails : GoodIn wsX7_count wsX7_fails := goodIn_r _ [37, 38, 45, 46, 47, 48, 49, 50, 51, 52, 53, 54, 55, 56, 57, 58, 59, 60, 61, 62, 63, 64, 65, 66, 67, 68, 69, 70, 71, 72, 73, 74, 75, 76] (by decide +kernel) (by decide +kernel)
set_option maxRecDepth 20000 in
theorem gX7_count_X7_fails : GoodIn wsX7_count (wsV RX7 137 RX7 yX7_fails wsX7_fails) := goodIn_app (goodIn_of _ (by decide +kernel)) ggX7_count_X7_fails
set_option maxRecDepth 20000 in
theorem ggX7_count_X7_isBetween : GoodIn wsX7_count wsX7_isBetween := goodIn_r _ [41, 42, 43, 6, 44, 24] (by decide +kernel) (by decide +kernel)
set_option maxRecDepth 20000 in
theorem gX7_count_X7_isBetween : GoodIn wsX7_count (va_wsS RX7 191 yX7_isBetween wsX7_isBetween) := goodIn_app (goodIn_of _ (by decide +kernel)) ggX7_count_X7_isBetween
theorem dX7_count_0 : decode cX7_count 0 = .ok (.aload_n 0, 1) := by decide +kernel
theorem dX7_count_1 : decode cX7_count 1 = .ok (.aload_n 0, 1) := by decide +kernel
theorem dX7_count_2 : decode cX7_count 2 = .ok (.iload_n 1, 1) := by decide +kernel
theorem dX7_count_3 : decode cX7_count 3 = .ok (.iload_n 2, 1) := by decide +kernel
theorem dX7_count_4 : decode cX7_count 4 = .ok (.iload_n 3, 1) := by decide +kernel
theorem dX7_count_5 : decode cX7_count 5 = .ok (.iload 4, 2) := by decide +kernel
theorem dX7_count_7 : decode cX7_count 7 = .ok (.iconst 0, 1) := by decide +kernel
theorem dX7_count_8 : decode cX7_count 8 = .ok (.invokevirtual 187, 3) := by decide +kernel
theorem dX7_count_11 : decode cX7_count 11 = .ok (.invokevirtual 137, 3) := by decide +kernel
theorem dX7_count_14 : decode cX7_count 14 = .ok (.ifCond .eq 5, 3) := by decide +kernel
theorem dX7_count_17 : decode cX7_count 17 = .ok (.iconst 0, 1) := by decide +kernel
theorem dX7_count_18 : decode cX7_count 18 = .ok (.ireturn, 1) := by decide +kernel
theorem dX7_count_19 : decode cX7_count 19 = .ok (.iconst 0, 1) := by decide +kernel
theorem dX7_count_20 : decode cX7_count 20 = .ok (.istore 5, 2) := by decide +kernel
theorem dX7_count_22 : decode cX7_count 22 = .ok (.bipush 40, 2) := by decide +kernel
theorem dX7_count_24 : decode cX7_count 24 = .ok (.iload_n 2, 1) := by decide +kernel
theorem dX7_count_25 : decode cX7_count 25 = .ok (.imul, 1) := by decide +kernel
theorem dX7_count_26 : decode cX7_count 26 = .ok (.istore 6, 2) := by decide +kernel
theorem dX7_count_28 : decode cX7_count 28 = .ok (.iload 6, 2) := by decide +kernel
theorem dX7_count_30 : decode cX7_count 30 = .ok (.bipush 40, 2) := by decide +kernel
theorem dX7_count_32 : decode cX7_count 32 = .ok (.iload_n 2, 1) := by decide +kernel
theorem dX7_count_33 : decode cX7_count 33 = .ok (.imul, 1) := by decide +kernel
theorem dX7_count_34 : decode cX7_count 34 = .ok (.aload_n 0, 1) := by decide +kernel
theorem dX7_count_35 : decode cX7_count 35 = .ok (.getfield 30, 3) := by decide +kernel
theorem dX7_count_38 : decode cX7_count 38 = .ok (.iload_n 2, 1) := by decide +kernel
theorem dX7_count_39 : decode cX7_count 39 = .ok (.iaload, 1) := by decide +kernel
theorem dX7_count_40 : decode cX7_count 40 = .ok (.iadd, 1) := by decide +kernel
theorem dX7_count_41 : decode cX7_count 41 = .ok (.if_icmp .ge 35, 3) := by decide +kernel
theorem dX7_count_44 : decode cX7_count 44 = .ok (.iload 5, 2) := by decide +kernel
theorem dX7_count_46 : decode cX7_count 46 = .ok (.aload_n 0, 1) := by decide +kernel
theorem dX7_count_47 : decode cX7_count 47 = .ok (.getfield 33, 3) := by decide +kernel
theorem dX7_count_50 : decode cX7_count 50 = .ok (.iload 6, 2) := by decide +kernel
theorem dX7_count_52 : decode cX7_count 52 = .ok (.iaload, 1) := by decide +kernel
theorem dX7_count_53 : decode cX7_count 53 = .ok (.iload_n 3, 1) := by decide +kernel
theorem dX7_count_54 : decode cX7_count 54 = .ok (.iload 4, 2) := by decide +kernel
theorem dX7_count_56 : decode cX7_count 56 = .ok (.invokestatic 191, 3) := by decide +kernel
theorem dX7_count_59 : decode cX7_count 59 = .ok (.ifCond .eq 7, 3) := by decide +kernel
theorem dX7_count_62 : decode cX7_count 62 = .ok (.iconst 1, 1) := by decide +kernel
theorem dX7_count_63 : decode cX7_count 63 = .ok (.goto 4, 3) := by decide +kernel
theorem dX7_count_66 : decode cX7_count 66 = .ok (.iconst 0, 1) := by decide +kernel
theorem dX7_count_67 : decode cX7_count 67 = .ok (.iadd, 1) := by decide +kernel
theorem dX7_count_68 : decode cX7_count 68 = .ok (.istore 5, 2) := by decide +kernel
theorem dX7_count_70 : decode cX7_count 70 = .ok (.iinc 6 1, 3) := by decide +kernel
theorem dX7_count_73 : decode cX7_count 73 = .ok (.goto (-45), 3) := by decide +kernel
theorem dX7_count_76 : decode cX7_count 76 = .ok (.iload 5, 2) := by decide +kernel
theorem dX7_count_78 : decode cX7_count 78 = .ok (.ireturn, 1) := by decide +kernel
set_option maxRecDepth 20000 in
theorem ggX7_cursor_X7_isTransaction : GoodIn wsX7_cursor wsX7_isTransaction := goodIn_r _ [12, 13, 14, 15, 11, 16, 34, 35, 36, 37, 38, 39, 40, 41, 42, 43, 44, 45, 46, 47, 48, 49, 50, 51, 52, 53, 54, 55, 56, 57, 58, 59, 60, 61, 62, 63, 64, 65] (by decide +kernel) (by decide +kernel)
set_option maxRecDepth 20000 in
theorem gX7_cursor_X7_isTransaction : GoodIn wsX7_cursor (wsV RX7 158 RX7 yX7_isTransaction wsX7_isTransaction) := goodIn_app (goodIn_of _ (by decide +kernel)) ggX7_cursor_X7_isTransaction
set_option maxRecDepth 20000 in
theorem ggX7_cursor_X7_isStore : GoodIn wsX7_cursor wsX7_isStore := goodIn_r _ [20, 21, 14, 15, 11, 16, 34, 35, 36, 37, 38, 39, 40, 41, 42, 43, 44, 45, 46, 47, 48, 49, 50, 51, 52, 53, 54, 55, 56, 57, 58, 59, 60, 61, 62, 63, 64, 65] (by decide +kernel) (by decide +kernel)
set_option maxRecDepth 20000 in
theorem gX7_cursor_X7_isStore : GoodIn wsX7_cursor (wsV RX7 161 RX7 yX7_isStore wsX7_isStore) := goodIn_app (goodIn_of _ (by decide +kernel)) ggX7_cursor_X7_isStore
set_option maxRecDepth 20000 in
theorem ggX7_cursor_X7_isIn : GoodIn wsX7_cursor wsX7_isIn := goodIn_r _ [16] (by decide +kernel) (by decide +kernel)
set_option maxRecDepth 20000 in
theorem gX7_cursor_X7_isIn : GoodIn wsX7_cursor (va_wsS RX7 96 yX7_isIn wsX7_isIn) := goodIn_app (goodIn_of _ (by decide +kernel)) ggX7_cursor_X7_isIn
set_option maxRecDepth 20000 in
theorem ggX7_cursor_X7_can : GoodIn wsX7_cursor wsX7_can := goodIn_r _ [25, 26, 27, 28, 34, 35, 36, 37, 38, 39, 40, 41, 42, 43, 44, 45, 46, 47, 48, 49, 50, 51, 52, 53, 54, 55, 56, 57, 58, 59, 60, 61, 62, 63, 64, 65] (by decide +kernel) (by decide +kernel)
set_option maxRecDepth 20000 in
theorem gX7_cursor_X7_can : GoodIn wsX7_cursor (wsV RX7 175 RX7 yX7_can wsX7_can) := goodIn_app (goodIn_of _ (by decide +kernel)) ggX7_cursor_X7_can
set_option maxRecDepth 20000 in
theorem ggX7_cursor_X7_fails : GoodIn wsX7_cursor wsX7_fails := goodIn_r _ [32, 33, 34, 35, 36, 37, 38, 39, 40, 41, 42, 43, 44, 45, 46, 47, 48, 49, 50, 51, 52, 53, 54, 55, 56, 57, 58, 59, 60, 61, 62, 63, 64, 65] (by decide +kernel) (by decide +kernel)
set_option maxRecDepth 20000 in
theorem gX7_cursor_X7_fails : GoodIn wsX7_cursor (wsV RX7 137 RX7 yX7_fails wsX7_fails) := goodIn_app (goodIn_of _ (by decide +kernel)) ggX7_cursor_X7_fails
theorem dX7_cursor_0 : decode cX7_cursor 0 = .ok (.aload_n 0, 1) := by decide +kernel
theorem dX7_cursor_1 : decode cX7_cursor 1 = .ok (.iload_n 1, 1) := by decide +kernel
theorem dX7_cursor_2 : decode cX7_cursor 2 = .ok (.invokevirtual 158, 3) := by decide +kernel
theorem dX7_cursor_5 : decode cX7_cursor 5 = .ok (.ifCond .eq 24, 3) := by decide +kernel
theorem dX7_cursor_8 : decode cX7_cursor 8 = .ok (.aload_n 0, 1) := by decide +kernel
theorem dX7_cursor_9 : decode cX7_cursor 9 = .ok (.iload_n 2, 1) := by decide +kernel
theorem dX7_cursor_10 : decode cX7_cursor 10 = .ok (.invokevirtual 161, 3) := by decide +kernel
theorem dX7_cursor_13 : decode cX7_cursor 13 = .ok (.ifCond .eq 16, 3) := by decide +kernel
theorem dX7_cursor_16 : decode cX7_cursor 16 = .ok (.iload_n 3, 1) := by decide +kernel
theorem dX7_cursor_17 : decode cX7_cursor 17 = .ok (.iconst (-1), 1) := by decide +kernel
theorem dX7_cursor_18 : decode cX7_cursor 18 = .ok (.iconst 1, 1) := by decide +kernel
theorem dX7_cursor_19 : decode cX7_cursor 19 = .ok (.invokestatic 96, 3) := by decide +kernel
theorem dX7_cursor_22 : decode cX7_cursor 22 = .ok (.ifCond .eq 7, 3) := by decide +kernel
theorem dX7_cursor_25 : decode cX7_cursor 25 = .ok (.iconst 1, 1) := by decide +kernel
theorem dX7_cursor_26 : decode cX7_cursor 26 = .ok (.goto 4, 3) := by decide +kernel
theorem dX7_cursor_29 : decode cX7_cursor 29 = .ok (.iconst 0, 1) := by decide +kernel
theorem dX7_cursor_30 : decode cX7_cursor 30 = .ok (.istore 5, 2) := by decide +kernel
theorem dX7_cursor_32 : decode cX7_cursor 32 = .ok (.iload 5, 2) := by decide +kernel
theorem dX7_cursor_34 : decode cX7_cursor 34 = .ok (.ifCond .eq 44, 3) := by decide +kernel
theorem dX7_cursor_37 : decode cX7_cursor 37 = .ok (.aload_n 0, 1) := by decide +kernel
theorem dX7_cursor_38 : decode cX7_cursor 38 = .ok (.iload_n 1, 1) := by decide +kernel
theorem dX7_cursor_39 : decode cX7_cursor 39 = .ok (.iload_n 2, 1) := by decide +kernel
theorem dX7_cursor_40 : decode cX7_cursor 40 = .ok (.iconst 0, 1) := by decide +kernel
theorem dX7_cursor_41 : decode cX7_cursor 41 = .ok (.invokevirtual 175, 3) := by decide +kernel
theorem dX7_cursor_44 : decode cX7_cursor 44 = .ok (.ifCond .eq 34, 3) := by decide +kernel
theorem dX7_cursor_47 : decode cX7_cursor 47 = .ok (.iload_n 3, 1) := by decide +kernel
theorem dX7_cursor_48 : decode cX7_cursor 48 = .ok (.iconst (-1), 1) := by decide +kernel
theorem dX7_cursor_49 : decode cX7_cursor 49 = .ok (.if_icmp .eq 16, 3) := by decide +kernel
theorem dX7_cursor_52 : decode cX7_cursor 52 = .ok (.aload_n 0, 1) := by decide +kernel
theorem dX7_cursor_53 : decode cX7_cursor 53 = .ok (.getfield 27, 3) := by decide +kernel
theorem dX7_cursor_56 : decode cX7_cursor 56 = .ok (.iconst 2, 1) := by decide +kernel
theorem dX7_cursor_57 : decode cX7_cursor 57 = .ok (.iload_n 2, 1) := by decide +kernel
theorem dX7_cursor_58 : decode cX7_cursor 58 = .ok (.imul, 1) := by decide +kernel
theorem dX7_cursor_59 : decode cX7_cursor 59 = .ok (.iload_n 3, 1) := by decide +kernel
theorem dX7_cursor_60 : decode cX7_cursor 60 = .ok (.iadd, 1) := by decide +kernel
theorem dX7_cursor_61 : decode cX7_cursor 61 = .ok (.iaload, 1) := by decide +kernel
theorem dX7_cursor_62 : decode cX7_cursor 62 = .ok (.ifCond .le 16, 3) := by decide +kernel
theorem dX7_cursor_65 : decode cX7_cursor 65 = .ok (.aload_n 0, 1) := by decide +kernel
theorem dX7_cursor_66 : decode cX7_cursor 66 = .ok (.getfield 194, 3) := by decide +kernel
theorem dX7_cursor_69 : decode cX7_cursor 69 = .ok (.bipush 40, 2) := by decide +kernel
theorem dX7_cursor_71 : decode cX7_cursor 71 = .ok (.if_icmp .ge 7, 3) := by decide +kernel
theorem dX7_cursor_74 : decode cX7_cursor 74 = .ok (.iconst 1, 1) := by decide +kernel
theorem dX7_cursor_75 : decode cX7_cursor 75 = .ok (.goto 4, 3) := by decide +kernel
theorem dX7_cursor_78 : decode cX7_cursor 78 = .ok (.iconst 0, 1) := by decide +kernel
theorem dX7_cursor_79 : decode cX7_cursor 79 = .ok (.istore 6, 2) := by decide +kernel
theorem dX7_cursor_81 : decode cX7_cursor 81 = .ok (.aload_n 0, 1) := by decide +kernel
theorem dX7_cursor_82 : decode cX7_cursor 82 = .ok (.iload 5, 2) := by decide +kernel
theorem dX7_cursor_84 : decode cX7_cursor 84 = .ok (.ifCond .ne 7, 3) := by decide +kernel
theorem dX7_cursor_87 : decode cX7_cursor 87 = .ok (.iconst 1, 1) := by decide +kernel
theorem dX7_cursor_88 : decode cX7_cursor 88 = .ok (.goto 27, 3) := by decide +kernel
theorem dX7_cursor_91 : decode cX7_cursor 91 = .ok (.iload 4, 2) := by decide +kernel
theorem dX7_cursor_93 : decode cX7_cursor 93 = .ok (.iconst 0, 1) := by decide +kernel
theorem dX7_cursor_94 : decode cX7_cursor 94 = .ok (.iconst 3, 1) := by decide +kernel
theorem dX7_cursor_95 : decode cX7_cursor 95 = .ok (.invokestatic 96, 3) := by decide +kernel
theorem dX7_cursor_98 : decode cX7_cursor 98 = .ok (.ifCond .ne 7, 3) := by decide +kernel
theorem dX7_cursor_101 : decode cX7_cursor 101 = .ok (.iconst 2, 1) := by decide +kernel
theorem dX7_cursor_102 : decode cX7_cursor 102 = .ok (.goto 13, 3) := by decide +kernel
theorem dX7_cursor_105 : decode cX7_cursor 105 = .ok (.iload 6, 2) := by decide +kernel
theorem dX7_cursor_107 : decode cX7_cursor 107 = .ok (.ifCond .eq 7, 3) := by decide +kernel
theorem dX7_cursor_110 : decode cX7_cursor 110 = .ok (.iconst 0, 1) := by decide +kernel
theorem dX7_cursor_111 : decode cX7_cursor 111 = .ok (.goto 4, 3) := by decide +kernel
theorem dX7_cursor_114 : decode cX7_cursor 114 = .ok (.iconst 3, 1) := by decide +kernel
theorem dX7_cursor_115 : decode cX7_cursor 115 = .ok (.invokevirtual 137, 3) := by decide +kernel
theorem dX7_cursor_118 : decode cX7_cursor 118 = .ok (.ifCond .eq 5, 3) := by decide +kernel
theorem dX7_cursor_121 : decode cX7_cursor 121 = .ok (.iconst 0, 1) := by decide +kernel
theorem dX7_cursor_122 : decode cX7_cursor 122 = .ok (.ireturn, 1) := by decide +kernel
theorem dX7_cursor_123 : decode cX7_cursor 123 = .ok (.aload_n 0, 1) := by decide +kernel
theorem dX7_cursor_124 : decode cX7_cursor 124 = .ok (.getfield 72, 3) := by decide +kernel
theorem dX7_cursor_127 : decode cX7_cursor 127 = .ok (.aload_n 0, 1) := by decide +kernel
theorem dX7_cursor_128 : decode cX7_cursor 128 = .ok (.getfield 194, 3) := by decide +kernel
theorem dX7_cursor_131 : decode cX7_cursor 131 = .ok (.iload_n 1, 1) := by decide +kernel
theorem dX7_cursor_132 : decode cX7_cursor 132 = .ok (.iastore, 1) := by decide +kernel
theorem dX7_cursor_133 : decode cX7_cursor 133 = .ok (.aload_n 0, 1) := by decide +kernel
theorem dX7_cursor_134 : decode cX7_cursor 134 = .ok (.getfield 75, 3) := by decide +kernel
theorem dX7_cursor_137 : decode cX7_cursor 137 = .ok (.aload_n 0, 1) := by decide +kernel
theorem dX7_cursor_138 : decode cX7_cursor 138 = .ok (.getfield 194, 3) := by decide +kernel
theorem dX7_cursor_141 : decode cX7_cursor 141 = .ok (.iload_n 2, 1) := by decide +kernel
theorem dX7_cursor_142 : decode cX7_cursor 142 = .ok (.iastore, 1) := by decide +kernel
theorem dX7_cursor_143 : decode cX7_cursor 143 = .ok (.aload_n 0, 1) := by decide +kernel
theorem dX7_cursor_144 : decode cX7_cursor 144 = .ok (.getfield 78, 3) := by decide +kernel
theorem dX7_cursor_147 : decode cX7_cursor 147 = .ok (.aload_n 0, 1) := by decide +kernel
theorem dX7_cursor_148 : decode cX7_cursor 148 = .ok (.getfield 194, 3) := by decide +kernel
theorem dX7_cursor_151 : decode cX7_cursor 151 = .ok (.iload_n 3, 1) := by decide +kernel
theorem dX7_cursor_152 : decode cX7_cursor 152 = .ok (.iastore, 1) := by decide +kernel
theorem dX7_cursor_153 : decode cX7_cursor 153 = .ok (.aload_n 0, 1) := by decide +kernel
theorem dX7_cursor_154 : decode cX7_cursor 154 = .ok (.getfield 81, 3) := by decide +kernel
theorem dX7_cursor_157 : decode cX7_cursor 157 = .ok (.aload_n 0, 1) := by decide +kernel
theorem dX7_cursor_158 : decode cX7_cursor 158 = .ok (.getfield 194, 3) := by decide +kernel
theorem dX7_cursor_161 : decode cX7_cursor 161 = .ok (.iload 4, 2) := by decide +kernel
theorem dX7_cursor_163 : decode cX7_cursor 163 = .ok (.iastore, 1) := by decide +kernel
theorem dX7_cursor_164 : decode cX7_cursor 164 = .ok (.aload_n 0, 1) := by decide +kernel
theorem dX7_cursor_165 : decode cX7_cursor 165 = .ok (.getfield 84, 3) := by decide +kernel
theorem dX7_cursor_168 : decode cX7_cursor 168 = .ok (.aload_n 0, 1) := by decide +kernel
theorem dX7_cursor_169 : decode cX7_cursor 169 = .ok (.getfield 194, 3) := by decide +kernel
theorem dX7_cursor_172 : decode cX7_cursor 172 = .ok (.iconst 0, 1) := by decide +kernel
theorem dX7_cursor_173 : decode cX7_cursor 173 = .ok (.iastore, 1) := by decide +kernel
theorem dX7_cursor_174 : decode cX7_cursor 174 = .ok (.aload_n 0, 1) := by decide +kernel
theorem dX7_cursor_175 : decode cX7_cursor 175 = .ok (.dup, 1) := by decide +kernel
theorem dX7_cursor_176 : decode cX7_cursor 176 = .ok (.getfield 194, 3) := by decide +kernel
theorem dX7_cursor_179 : decode cX7_cursor 179 = .ok (.iconst 1, 1) := by decide +kernel
theorem dX7_cursor_180 : decode cX7_cursor 180 = .ok (.iadd, 1) := by decide +kernel
theorem dX7_cursor_181 : decode cX7_cursor 181 = .ok (.putfield 194, 3) := by decide +kernel
theorem dX7_cursor_184 : decode cX7_cursor 184 = .ok (.aload_n 0, 1) := by decide +kernel
theorem dX7_cursor_185 : decode cX7_cursor 185 = .ok (.getfield 194, 3) := by decide +kernel
theorem dX7_cursor_188 : decode cX7_cursor 188 = .ok (.iconst 1, 1) := by decide +kernel
theorem dX7_cursor_189 : decode cX7_cursor 189 = .ok (.isub, 1) := by decide +kernel
theorem dX7_cursor_190 : decode cX7_cursor 190 = .ok (.ireturn, 1) := by decide +kernel
set_option maxRecDepth 20000 in
theorem ggX7_isCursor_X7_isIn : GoodIn wsX7_isCursor wsX7_isIn := goodIn_r _ [5] (by decide +kernel) (by decide +kernel)
set_option maxRecDepth 20000 in
theorem gX7_isCursor_X7_isIn : GoodIn wsX7_isCursor (va_wsS RX7 96 yX7_isIn wsX7_isIn) := goodIn_app (goodIn_of _ (by decide +kernel)) ggX7_isCursor_X7_isIn
theorem dX7_isCursor_0 : decode cX7_isCursor 0 = .ok (.iload_n 1, 1) := by decide +kernel
theorem dX7_isCursor_1 : decode cX7_isCursor 1 = .ok (.iconst 0, 1) := by decide +kernel
theorem dX7_isCursor_2 : decode cX7_isCursor 2 = .ok (.aload_n 0, 1) := by decide +kernel
theorem dX7_isCursor_3 : decode cX7_isCursor 3 = .ok (.getfield 194, 3) := by decide +kernel
theorem dX7_isCursor_6 : decode cX7_isCursor 6 = .ok (.iconst 1, 1) := by decide +kernel
theorem dX7_isCursor_7 : decode cX7_isCursor 7 = .ok (.isub, 1) := by decide +kernel
theorem dX7_isCursor_8 : decode cX7_isCursor 8 = .ok (.invokestatic 96, 3) := by decide +kernel
theorem dX7_isCursor_11 : decode cX7_isCursor 11 = .ok (.ireturn, 1) := by decide +kernel
theorem dX7_entry_0 : decode cX7_entry 0 = .ok (.aload_n 0, 1) := by decide +kernel
theorem dX7_entry_1 : decode cX7_entry 1 = .ok (.getfield 78, 3) := by decide +kernel
theorem dX7_entry_4 : decode cX7_entry 4 = .ok (.iload_n 1, 1) := by decide +kernel
theorem dX7_entry_5 : decode cX7_entry 5 = .ok (.iaload, 1) := by decide +kernel
theorem dX7_entry_6 : decode cX7_entry 6 = .ok (.iconst (-1), 1) := by decide +kernel
theorem dX7_entry_7 : decode cX7_entry 7 = .ok (.if_icmp .ne 7, 3) := by decide +kernel
theorem dX7_entry_10 : decode cX7_entry 10 = .ok (.iconst 0, 1) := by decide +kernel
theorem dX7_entry_11 : decode cX7_entry 11 = .ok (.goto 18, 3) := by decide +kernel
theorem dX7_entry_14 : decode cX7_entry 14 = .ok (.aload_n 0, 1) := by decide +kernel
theorem dX7_entry_15 : decode cX7_entry 15 = .ok (.getfield 39, 3) := by decide +kernel
theorem dX7_entry_18 : decode cX7_entry 18 = .ok (.iconst 2, 1) := by decide +kernel
theorem dX7_entry_19 : decode cX7_entry 19 = .ok (.iload_n 2, 1) := by decide +kernel
theorem dX7_entry_20 : decode cX7_entry 20 = .ok (.imul, 1) := by decide +kernel
theorem dX7_entry_21 : decode cX7_entry 21 = .ok (.aload_n 0, 1) := by decide +kernel
theorem dX7_entry_22 : decode cX7_entry 22 = .ok (.getfield 78, 3) := by decide +kernel
theorem dX7_entry_25 : decode cX7_entry 25 = .ok (.iload_n 1, 1) := by decide +kernel
theorem dX7_entry_26 : decode cX7_entry 26 = .ok (.iaload, 1) := by decide +kernel
theorem dX7_entry_27 : decode cX7_entry 27 = .ok (.iadd, 1) := by decide +kernel
theorem dX7_entry_28 : decode cX7_entry 28 = .ok (.iaload, 1) := by decide +kernel
theorem dX7_entry_29 : decode cX7_entry 29 = .ok (.ireturn, 1) := by decide +kernel
set_option maxRecDepth 20000 in
theorem ggX7_apart_X7_rank : GoodIn wsX7_apart wsX7_rank := goodIn_r _ [4, 5] (by decide +kernel) (by decide +kernel)
set_option maxRecDepth 20000 in
theorem gX7_apart_X7_rank : GoodIn wsX7_apart (va_wsS RX7 183 yX7_rank wsX7_rank) := goodIn_app (goodIn_of _ (by decide +kernel)) ggX7_apart_X7_rank
theorem dX7_apart_0 : decode cX7_apart 0 = .ok (.iload_n 0, 1) := by decide +kernel
theorem dX7_apart_1 : decode cX7_apart 1 = .ok (.iload_n 2, 1) := by decide +kernel
theorem dX7_apart_2 : decode cX7_apart 2 = .ok (.if_icmp .eq 16, 3) := by decide +kernel
theorem dX7_apart_5 : decode cX7_apart 5 = .ok (.iload_n 0, 1) := by decide +kernel
theorem dX7_apart_6 : decode cX7_apart 6 = .ok (.iload_n 2, 1) := by decide +kernel
theorem dX7_apart_7 : decode cX7_apart 7 = .ok (.if_icmp .ge 7, 3) := by decide +kernel
theorem dX7_apart_10 : decode cX7_apart 10 = .ok (.iconst (-1), 1) := by decide +kernel
theorem dX7_apart_11 : decode cX7_apart 11 = .ok (.goto 32, 3) := by decide +kernel
theorem dX7_apart_14 : decode cX7_apart 14 = .ok (.iconst 1, 1) := by decide +kernel
theorem dX7_apart_15 : decode cX7_apart 15 = .ok (.goto 28, 3) := by decide +kernel
theorem dX7_apart_18 : decode cX7_apart 18 = .ok (.iload_n 1, 1) := by decide +kernel
theorem dX7_apart_19 : decode cX7_apart 19 = .ok (.invokestatic 183, 3) := by decide +kernel
theorem dX7_apart_22 : decode cX7_apart 22 = .ok (.iload_n 3, 1) := by decide +kernel
theorem dX7_apart_23 : decode cX7_apart 23 = .ok (.invokestatic 183, 3) := by decide +kernel
theorem dX7_apart_26 : decode cX7_apart 26 = .ok (.if_icmp .ge 7, 3) := by decide +kernel
theorem dX7_apart_29 : decode cX7_apart 29 = .ok (.iconst (-1), 1) := by decide +kernel
theorem dX7_apart_30 : decode cX7_apart 30 = .ok (.goto 13, 3) := by decide +kernel
theorem dX7_apart_33 : decode cX7_apart 33 = .ok (.iload_n 1, 1) := by decide +kernel
theorem dX7_apart_34 : decode cX7_apart 34 = .ok (.iload_n 3, 1) := by decide +kernel
theorem dX7_apart_35 : decode cX7_apart 35 = .ok (.if_icmp .ne 7, 3) := by decide +kernel
theorem dX7_apart_38 : decode cX7_apart 38 = .ok (.iconst 0, 1) := by decide +kernel
theorem dX7_apart_39 : decode cX7_apart 39 = .ok (.goto 4, 3) := by decide +kernel
theorem dX7_apart_42 : decode cX7_apart 42 = .ok (.iconst 1, 1) := by decide +kernel
theorem dX7_apart_43 : decode cX7_apart 43 = .ok (.ireturn, 1) := by decide +kernel
set_option maxRecDepth 20000 in
theorem ggX7_isBehind_X7_entry : GoodIn wsX7_isBehind wsX7_entry := goodIn_r _ [11, 3, 12, 20, 21, 22, 23, 24, 25, 26, 27, 28, 29, 30, 31, 32, 33, 34, 35, 36, 37, 38, 39, 40, 41, 42, 43, 44, 45, 46, 47, 48, 49, 50, 51] (by decide +kernel) (by decide +kernel)
set_option maxRecDepth 20000 in
theorem gX7_isBehind_X7_entry : GoodIn wsX7_isBehind (wsV RX7 197 RX7 yX7_entry wsX7_entry) := goodIn_app (goodIn_of _ (by decide +kernel)) ggX7_isBehind_X7_entry
set_option maxRecDepth 20000 in
theorem ggX7_isBehind_X7_apart : GoodIn wsX7_isBehind wsX7_apart := goodIn_r _ [15, 16, 17, 10, 18, 19] (by decide +kernel) (by decide +kernel)
set_option maxRecDepth 20000 in
theorem gX7_isBehind_X7_apart : GoodIn wsX7_isBehind (va_wsS RX7 200 yX7_apart wsX7_apart) := goodIn_app (goodIn_of _ (by decide +kernel)) ggX7_isBehind_X7_apart
theorem dX7_isBehind_0 : decode cX7_isBehind 0 = .ok (.aload_n 0, 1) := by decide +kernel
theorem dX7_isBehind_1 : decode cX7_isBehind 1 = .ok (.iload_n 1, 1) := by decide +kernel
theorem dX7_isBehind_2 : decode cX7_isBehind 2 = .ok (.iload_n 2, 1) := by decide +kernel
theorem dX7_isBehind_3 : decode cX7_isBehind 3 = .ok (.invokevirtual 197, 3) := by decide +kernel
theorem dX7_isBehind_6 : decode cX7_isBehind 6 = .ok (.istore_n 3, 1) := by decide +kernel
theorem dX7_isBehind_7 : decode cX7_isBehind 7 = .ok (.aload_n 0, 1) := by decide +kernel
theorem dX7_isBehind_8 : decode cX7_isBehind 8 = .ok (.getfield 81, 3) := by decide +kernel
theorem dX7_isBehind_11 : decode cX7_isBehind 11 = .ok (.iload_n 1, 1) := by decide +kernel
theorem dX7_isBehind_12 : decode cX7_isBehind 12 = .ok (.iaload, 1) := by decide +kernel
theorem dX7_isBehind_13 : decode cX7_isBehind 13 = .ok (.iconst 2, 1) := by decide +kernel
theorem dX7_isBehind_14 : decode cX7_isBehind 14 = .ok (.irem, 1) := by decide +kernel
theorem dX7_isBehind_15 : decode cX7_isBehind 15 = .ok (.iconst 1, 1) := by decide +kernel
theorem dX7_isBehind_16 : decode cX7_isBehind 16 = .ok (.if_icmp .ne 7, 3) := by decide +kernel
theorem dX7_isBehind_19 : decode cX7_isBehind 19 = .ok (.iconst 1, 1) := by decide +kernel
theorem dX7_isBehind_20 : decode cX7_isBehind 20 = .ok (.goto 4, 3) := by decide +kernel
theorem dX7_isBehind_23 : decode cX7_isBehind 23 = .ok (.iconst 0, 1) := by decide +kernel
theorem dX7_isBehind_24 : decode cX7_isBehind 24 = .ok (.istore 4, 2) := by decide +kernel
theorem dX7_isBehind_26 : decode cX7_isBehind 26 = .ok (.iload_n 3, 1) := by decide +kernel
theorem dX7_isBehind_27 : decode cX7_isBehind 27 = .ok (.iconst (-1), 1) := by decide +kernel
theorem dX7_isBehind_28 : decode cX7_isBehind 28 = .ok (.if_icmp .eq 12, 3) := by decide +kernel
theorem dX7_isBehind_31 : decode cX7_isBehind 31 = .ok (.aload_n 0, 1) := by decide +kernel
theorem dX7_isBehind_32 : decode cX7_isBehind 32 = .ok (.getfield 84, 3) := by decide +kernel
theorem dX7_isBehind_35 : decode cX7_isBehind 35 = .ok (.iload_n 1, 1) := by decide +kernel
theorem dX7_isBehind_36 : decode cX7_isBehind 36 = .ok (.iaload, 1) := by decide +kernel
theorem dX7_isBehind_37 : decode cX7_isBehind 37 = .ok (.ifCond .ne 14, 3) := by decide +kernel
theorem dX7_isBehind_40 : decode cX7_isBehind 40 = .ok (.iload_n 3, 1) := by decide +kernel
theorem dX7_isBehind_41 : decode cX7_isBehind 41 = .ok (.iconst (-1), 1) := by decide +kernel
theorem dX7_isBehind_42 : decode cX7_isBehind 42 = .ok (.if_icmp .eq 7, 3) := by decide +kernel
theorem dX7_isBehind_45 : decode cX7_isBehind 45 = .ok (.iconst 1, 1) := by decide +kernel
theorem dX7_isBehind_46 : decode cX7_isBehind 46 = .ok (.goto 4, 3) := by decide +kernel
theorem dX7_isBehind_49 : decode cX7_isBehind 49 = .ok (.iconst 0, 1) := by decide +kernel
theorem dX7_isBehind_50 : decode cX7_isBehind 50 = .ok (.ireturn, 1) := by decide +kernel
theorem dX7_isBehind_51 : decode cX7_isBehind 51 = .ok (.aload_n 0, 1) := by decide +kernel
theorem dX7_isBehind_52 : decode cX7_isBehind 52 = .ok (.getfield 81, 3) := by decide +kernel
theorem dX7_isBehind_55 : decode cX7_isBehind 55 = .ok (.iload_n 1, 1) := by decide +kernel
theorem dX7_isBehind_56 : decode cX7_isBehind 56 = .ok (.iaload, 1) := by decide +kernel
theorem dX7_isBehind_57 : decode cX7_isBehind 57 = .ok (.iconst 1, 1) := by decide +kernel
theorem dX7_isBehind_58 : decode cX7_isBehind 58 = .ok (.if_icmp .le 52, 3) := by decide +kernel
theorem dX7_isBehind_61 : decode cX7_isBehind 61 = .ok (.aload_n 0, 1) := by decide +kernel
theorem dX7_isBehind_62 : decode cX7_isBehind 62 = .ok (.getfield 78, 3) := by decide +kernel
theorem dX7_isBehind_65 : decode cX7_isBehind 65 = .ok (.iload_n 1, 1) := by decide +kernel
theorem dX7_isBehind_66 : decode cX7_isBehind 66 = .ok (.iaload, 1) := by decide +kernel
theorem dX7_isBehind_67 : decode cX7_isBehind 67 = .ok (.iconst (-1), 1) := by decide +kernel
theorem dX7_isBehind_68 : decode cX7_isBehind 68 = .ok (.if_icmp .eq 42, 3) := by decide +kernel
theorem dX7_isBehind_71 : decode cX7_isBehind 71 = .ok (.iload 4, 2) := by decide +kernel
theorem dX7_isBehind_73 : decode cX7_isBehind 73 = .ok (.ifCond .eq 21, 3) := by decide +kernel
theorem dX7_isBehind_76 : decode cX7_isBehind 76 = .ok (.iload_n 3, 1) := by decide +kernel
theorem dX7_isBehind_77 : decode cX7_isBehind 77 = .ok (.aload_n 0, 1) := by decide +kernel
theorem dX7_isBehind_78 : decode cX7_isBehind 78 = .ok (.getfield 87, 3) := by decide +kernel
theorem dX7_isBehind_81 : decode cX7_isBehind 81 = .ok (.iload_n 1, 1) := by decide +kernel
theorem dX7_isBehind_82 : decode cX7_isBehind 82 = .ok (.iaload, 1) := by decide +kernel
theorem dX7_isBehind_83 : decode cX7_isBehind 83 = .ok (.if_icmp .ge 7, 3) := by decide +kernel
theorem dX7_isBehind_86 : decode cX7_isBehind 86 = .ok (.iconst 1, 1) := by decide +kernel
theorem dX7_isBehind_87 : decode cX7_isBehind 87 = .ok (.goto 22, 3) := by decide +kernel
theorem dX7_isBehind_90 : decode cX7_isBehind 90 = .ok (.iconst 0, 1) := by decide +kernel
theorem dX7_isBehind_91 : decode cX7_isBehind 91 = .ok (.goto 18, 3) := by decide +kernel
theorem dX7_isBehind_94 : decode cX7_isBehind 94 = .ok (.iload_n 3, 1) := by decide +kernel
theorem dX7_isBehind_95 : decode cX7_isBehind 95 = .ok (.aload_n 0, 1) := by decide +kernel
theorem dX7_isBehind_96 : decode cX7_isBehind 96 = .ok (.getfield 87, 3) := by decide +kernel
theorem dX7_isBehind_99 : decode cX7_isBehind 99 = .ok (.iload_n 1, 1) := by decide +kernel
theorem dX7_isBehind_100 : decode cX7_isBehind 100 = .ok (.iaload, 1) := by decide +kernel
theorem dX7_isBehind_101 : decode cX7_isBehind 101 = .ok (.if_icmp .le 7, 3) := by decide +kernel
theorem dX7_isBehind_104 : decode cX7_isBehind 104 = .ok (.iconst 1, 1) := by decide +kernel
theorem dX7_isBehind_105 : decode cX7_isBehind 105 = .ok (.goto 4, 3) := by decide +kernel
theorem dX7_isBehind_108 : decode cX7_isBehind 108 = .ok (.iconst 0, 1) := by decide +kernel
theorem dX7_isBehind_109 : decode cX7_isBehind 109 = .ok (.ireturn, 1) := by decide +kernel
theorem dX7_isBehind_110 : decode cX7_isBehind 110 = .ok (.iload_n 3, 1) := by decide +kernel
theorem dX7_isBehind_111 : decode cX7_isBehind 111 = .ok (.aload_n 0, 1) := by decide +kernel
theorem dX7_isBehind_112 : decode cX7_isBehind 112 = .ok (.getfield 33, 3) := by decide +kernel
theorem dX7_isBehind_115 : decode cX7_isBehind 115 = .ok (.iload_n 2, 1) := by decide +kernel
theorem dX7_isBehind_116 : decode cX7_isBehind 116 = .ok (.iaload, 1) := by decide +kernel
theorem dX7_isBehind_117 : decode cX7_isBehind 117 = .ok (.aload_n 0, 1) := by decide +kernel
theorem dX7_isBehind_118 : decode cX7_isBehind 118 = .ok (.getfield 87, 3) := by decide +kernel
theorem dX7_isBehind_121 : decode cX7_isBehind 121 = .ok (.iload_n 1, 1) := by decide +kernel
theorem dX7_isBehind_122 : decode cX7_isBehind 122 = .ok (.iaload, 1) := by decide +kernel
theorem dX7_isBehind_123 : decode cX7_isBehind 123 = .ok (.aload_n 0, 1) := by decide +kernel
theorem dX7_isBehind_124 : decode cX7_isBehind 124 = .ok (.getfield 90, 3) := by decide +kernel
theorem dX7_isBehind_127 : decode cX7_isBehind 127 = .ok (.iload_n 1, 1) := by decide +kernel
theorem dX7_isBehind_128 : decode cX7_isBehind 128 = .ok (.iaload, 1) := by decide +kernel
theorem dX7_isBehind_129 : decode cX7_isBehind 129 = .ok (.invokestatic 200, 3) := by decide +kernel
theorem dX7_isBehind_132 : decode cX7_isBehind 132 = .ok (.istore 5, 2) := by decide +kernel
theorem dX7_isBehind_134 : decode cX7_isBehind 134 = .ok (.iload 4, 2) := by decide +kernel
theorem dX7_isBehind_136 : decode cX7_isBehind 136 = .ok (.ifCond .eq 16, 3) := by decide +kernel
theorem dX7_isBehind_139 : decode cX7_isBehind 139 = .ok (.iload 5, 2) := by decide +kernel
theorem dX7_isBehind_141 : decode cX7_isBehind 141 = .ok (.ifCond .ge 7, 3) := by decide +kernel
theorem dX7_isBehind_144 : decode cX7_isBehind 144 = .ok (.iconst 1, 1) := by decide +kernel
theorem dX7_isBehind_145 : decode cX7_isBehind 145 = .ok (.goto 17, 3) := by decide +kernel
theorem dX7_isBehind_148 : decode cX7_isBehind 148 = .ok (.iconst 0, 1) := by decide +kernel
theorem dX7_isBehind_149 : decode cX7_isBehind 149 = .ok (.goto 13, 3) := by decide +kernel
theorem dX7_isBehind_152 : decode cX7_isBehind 152 = .ok (.iload 5, 2) := by decide +kernel
theorem dX7_isBehind_154 : decode cX7_isBehind 154 = .ok (.ifCond .le 7, 3) := by decide +kernel
theorem dX7_isBehind_157 : decode cX7_isBehind 157 = .ok (.iconst 1, 1) := by decide +kernel
theorem dX7_isBehind_158 : decode cX7_isBehind 158 = .ok (.goto 4, 3) := by decide +kernel
theorem dX7_isBehind_161 : decode cX7_isBehind 161 = .ok (.iconst 0, 1) := by decide +kernel
theorem dX7_isBehind_162 : decode cX7_isBehind 162 = .ok (.ireturn, 1) := by decide +kernel
set_option maxRecDepth 20000 in
theorem ggX7_isSooner_X7_entry : GoodIn wsX7_isSooner wsX7_entry := goodIn_r _ [8, 2, 9, 17, 18, 19, 20, 21, 22, 23, 24, 25, 26, 27, 28, 29, 30, 31, 32, 33, 34, 35, 36, 37, 38, 39, 40, 41, 42, 43, 44, 45, 46, 47, 48] (by decide +kernel) (by decide +kernel)
set_option maxRecDepth 20000 in
theorem gX7_isSooner_X7_entry : GoodIn wsX7_isSooner (wsV RX7 197 RX7 yX7_entry wsX7_entry) := goodIn_app (goodIn_of _ (by decide +kernel)) ggX7_isSooner_X7_entry
set_option maxRecDepth 20000 in
theorem ggX7_isSooner_X7_rank : GoodIn wsX7_isSooner wsX7_rank := goodIn_r _ [12, 13] (by decide +kernel) (by decide +kernel)
set_option maxRecDepth 20000 in
theorem gX7_isSooner_X7_rank : GoodIn wsX7_isSooner (va_wsS RX7 183 yX7_rank wsX7_rank) := goodIn_app (goodIn_of _ (by decide +kernel)) ggX7_isSooner_X7_rank
set_option maxRecDepth 20000 in
theorem ggX7_isSooner_X7_apart : GoodIn wsX7_isSooner wsX7_apart := goodIn_r _ [16, 10, 11, 7, 12, 13] (by decide +kernel) (by decide +kernel)
set_option maxRecDepth 20000 in
theorem gX7_isSooner_X7_apart : GoodIn wsX7_isSooner (va_wsS RX7 200 yX7_apart wsX7_apart) := goodIn_app (goodIn_of _ (by decide +kernel)) ggX7_isSooner_X7_apart
theorem dX7_isSooner_0 : decode cX7_isSooner 0 = .ok (.aload_n 0, 1) := by decide +kernel
theorem dX7_isSooner_1 : decode cX7_isSooner 1 = .ok (.iload_n 1, 1) := by decide +kernel
theorem dX7_isSooner_2 : decode cX7_isSooner 2 = .ok (.iload_n 2, 1) := by decide +kernel
theorem dX7_isSooner_3 : decode cX7_isSooner 3 = .ok (.invokevirtual 197, 3) := by decide +kernel
theorem dX7_isSooner_6 : decode cX7_isSooner 6 = .ok (.istore 4, 2) := by decide +kernel
theorem dX7_isSooner_8 : decode cX7_isSooner 8 = .ok (.aload_n 0, 1) := by decide +kernel
theorem dX7_isSooner_9 : decode cX7_isSooner 9 = .ok (.iload_n 1, 1) := by decide +kernel
theorem dX7_isSooner_10 : decode cX7_isSooner 10 = .ok (.iload_n 3, 1) := by decide +kernel
theorem dX7_isSooner_11 : decode cX7_isSooner 11 = .ok (.invokevirtual 197, 3) := by decide +kernel
theorem dX7_isSooner_14 : decode cX7_isSooner 14 = .ok (.istore 5, 2) := by decide +kernel
theorem dX7_isSooner_16 : decode cX7_isSooner 16 = .ok (.aload_n 0, 1) := by decide +kernel
theorem dX7_isSooner_17 : decode cX7_isSooner 17 = .ok (.getfield 81, 3) := by decide +kernel
theorem dX7_isSooner_20 : decode cX7_isSooner 20 = .ok (.iload_n 1, 1) := by decide +kernel
theorem dX7_isSooner_21 : decode cX7_isSooner 21 = .ok (.iaload, 1) := by decide +kernel
theorem dX7_isSooner_22 : decode cX7_isSooner 22 = .ok (.iconst 2, 1) := by decide +kernel
theorem dX7_isSooner_23 : decode cX7_isSooner 23 = .ok (.irem, 1) := by decide +kernel
theorem dX7_isSooner_24 : decode cX7_isSooner 24 = .ok (.iconst 1, 1) := by decide +kernel
theorem dX7_isSooner_25 : decode cX7_isSooner 25 = .ok (.if_icmp .ne 7, 3) := by decide +kernel
theorem dX7_isSooner_28 : decode cX7_isSooner 28 = .ok (.iconst 1, 1) := by decide +kernel
theorem dX7_isSooner_29 : decode cX7_isSooner 29 = .ok (.goto 4, 3) := by decide +kernel
theorem dX7_isSooner_32 : decode cX7_isSooner 32 = .ok (.iconst 0, 1) := by decide +kernel
theorem dX7_isSooner_33 : decode cX7_isSooner 33 = .ok (.istore 6, 2) := by decide +kernel
theorem dX7_isSooner_35 : decode cX7_isSooner 35 = .ok (.aload_n 0, 1) := by decide +kernel
theorem dX7_isSooner_36 : decode cX7_isSooner 36 = .ok (.getfield 81, 3) := by decide +kernel
theorem dX7_isSooner_39 : decode cX7_isSooner 39 = .ok (.iload_n 1, 1) := by decide +kernel
theorem dX7_isSooner_40 : decode cX7_isSooner 40 = .ok (.iaload, 1) := by decide +kernel
theorem dX7_isSooner_41 : decode cX7_isSooner 41 = .ok (.iconst 1, 1) := by decide +kernel
theorem dX7_isSooner_42 : decode cX7_isSooner 42 = .ok (.if_icmp .le 47, 3) := by decide +kernel
theorem dX7_isSooner_45 : decode cX7_isSooner 45 = .ok (.aload_n 0, 1) := by decide +kernel
theorem dX7_isSooner_46 : decode cX7_isSooner 46 = .ok (.getfield 78, 3) := by decide +kernel
theorem dX7_isSooner_49 : decode cX7_isSooner 49 = .ok (.iload_n 1, 1) := by decide +kernel
theorem dX7_isSooner_50 : decode cX7_isSooner 50 = .ok (.iaload, 1) := by decide +kernel
theorem dX7_isSooner_51 : decode cX7_isSooner 51 = .ok (.iconst (-1), 1) := by decide +kernel
theorem dX7_isSooner_52 : decode cX7_isSooner 52 = .ok (.if_icmp .eq 37, 3) := by decide +kernel
theorem dX7_isSooner_55 : decode cX7_isSooner 55 = .ok (.iload 4, 2) := by decide +kernel
theorem dX7_isSooner_57 : decode cX7_isSooner 57 = .ok (.iload 5, 2) := by decide +kernel
theorem dX7_isSooner_59 : decode cX7_isSooner 59 = .ok (.if_icmp .ne 30, 3) := by decide +kernel
theorem dX7_isSooner_62 : decode cX7_isSooner 62 = .ok (.aload_n 0, 1) := by decide +kernel
theorem dX7_isSooner_63 : decode cX7_isSooner 63 = .ok (.getfield 33, 3) := by decide +kernel
theorem dX7_isSooner_66 : decode cX7_isSooner 66 = .ok (.iload_n 2, 1) := by decide +kernel
theorem dX7_isSooner_67 : decode cX7_isSooner 67 = .ok (.iaload, 1) := by decide +kernel
theorem dX7_isSooner_68 : decode cX7_isSooner 68 = .ok (.invokestatic 183, 3) := by decide +kernel
theorem dX7_isSooner_71 : decode cX7_isSooner 71 = .ok (.aload_n 0, 1) := by decide +kernel
theorem dX7_isSooner_72 : decode cX7_isSooner 72 = .ok (.getfield 33, 3) := by decide +kernel
theorem dX7_isSooner_75 : decode cX7_isSooner 75 = .ok (.iload_n 3, 1) := by decide +kernel
theorem dX7_isSooner_76 : decode cX7_isSooner 76 = .ok (.iaload, 1) := by decide +kernel
theorem dX7_isSooner_77 : decode cX7_isSooner 77 = .ok (.invokestatic 183, 3) := by decide +kernel
theorem dX7_isSooner_80 : decode cX7_isSooner 80 = .ok (.if_icmp .ge 7, 3) := by decide +kernel
theorem dX7_isSooner_83 : decode cX7_isSooner 83 = .ok (.iconst 1, 1) := by decide +kernel
theorem dX7_isSooner_84 : decode cX7_isSooner 84 = .ok (.goto 4, 3) := by decide +kernel
theorem dX7_isSooner_87 : decode cX7_isSooner 87 = .ok (.iconst 0, 1) := by decide +kernel
theorem dX7_isSooner_88 : decode cX7_isSooner 88 = .ok (.ireturn, 1) := by decide +kernel
theorem dX7_isSooner_89 : decode cX7_isSooner 89 = .ok (.iload 4, 2) := by decide +kernel
theorem dX7_isSooner_91 : decode cX7_isSooner 91 = .ok (.aload_n 0, 1) := by decide +kernel
theorem dX7_isSooner_92 : decode cX7_isSooner 92 = .ok (.getfield 33, 3) := by decide +kernel
theorem dX7_isSooner_95 : decode cX7_isSooner 95 = .ok (.iload_n 2, 1) := by decide +kernel
theorem dX7_isSooner_96 : decode cX7_isSooner 96 = .ok (.iaload, 1) := by decide +kernel
theorem dX7_isSooner_97 : decode cX7_isSooner 97 = .ok (.iload 5, 2) := by decide +kernel
theorem dX7_isSooner_99 : decode cX7_isSooner 99 = .ok (.aload_n 0, 1) := by decide +kernel
theorem dX7_isSooner_100 : decode cX7_isSooner 100 = .ok (.getfield 33, 3) := by decide +kernel
theorem dX7_isSooner_103 : decode cX7_isSooner 103 = .ok (.iload_n 3, 1) := by decide +kernel
theorem dX7_isSooner_104 : decode cX7_isSooner 104 = .ok (.iaload, 1) := by decide +kernel
theorem dX7_isSooner_105 : decode cX7_isSooner 105 = .ok (.invokestatic 200, 3) := by decide +kernel
theorem dX7_isSooner_108 : decode cX7_isSooner 108 = .ok (.istore 7, 2) := by decide +kernel
theorem dX7_isSooner_110 : decode cX7_isSooner 110 = .ok (.iload 6, 2) := by decide +kernel
theorem dX7_isSooner_112 : decode cX7_isSooner 112 = .ok (.ifCond .eq 16, 3) := by decide +kernel
theorem dX7_isSooner_115 : decode cX7_isSooner 115 = .ok (.iload 7, 2) := by decide +kernel
theorem dX7_isSooner_117 : decode cX7_isSooner 117 = .ok (.ifCond .le 7, 3) := by decide +kernel
theorem dX7_isSooner_120 : decode cX7_isSooner 120 = .ok (.iconst 1, 1) := by decide +kernel
theorem dX7_isSooner_121 : decode cX7_isSooner 121 = .ok (.goto 17, 3) := by decide +kernel
theorem dX7_isSooner_124 : decode cX7_isSooner 124 = .ok (.iconst 0, 1) := by decide +kernel
theorem dX7_isSooner_125 : decode cX7_isSooner 125 = .ok (.goto 13, 3) := by decide +kernel
theorem dX7_isSooner_128 : decode cX7_isSooner 128 = .ok (.iload 7, 2) := by decide +kernel
theorem dX7_isSooner_130 : decode cX7_isSooner 130 = .ok (.ifCond .ge 7, 3) := by decide +kernel
theorem dX7_isSooner_133 : decode cX7_isSooner 133 = .ok (.iconst 1, 1) := by decide +kernel
theorem dX7_isSooner_134 : decode cX7_isSooner 134 = .ok (.goto 4, 3) := by decide +kernel
theorem dX7_isSooner_137 : decode cX7_isSooner 137 = .ok (.iconst 0, 1) := by decide +kernel
theorem dX7_isSooner_138 : decode cX7_isSooner 138 = .ok (.ireturn, 1) := by decide +kernel
set_option maxRecDepth 20000 in
theorem ggX7_step_X7_isCursor : GoodIn wsX7_step wsX7_isCursor := goodIn_r _ [14, 15, 16, 17, 13, 18, 46, 47, 48, 49, 50, 51, 52, 53, 54, 55, 56, 57, 58, 59, 60, 61, 62, 63, 64, 65, 66, 67, 68, 69, 70, 71, 72, 73, 74, 75, 76, 77] (by decide +kernel) (by decide +kernel)
set_option maxRecDepth 20000 in
theorem gX7_step_X7_isCursor : GoodIn wsX7_step (wsV RX7 204 RX7 yX7_isCursor wsX7_isCursor) := goodIn_app (goodIn_of _ (by decide +kernel)) ggX7_step_X7_isCursor
set_option maxRecDepth 20000 in
theorem ggX7_step_X7_fails : GoodIn wsX7_step wsX7_fails := goodIn_r _ [22, 23, 46, 47, 48, 49, 50, 51, 52, 53, 54, 55, 56, 57, 58, 59, 60, 61, 62, 63, 64, 65, 66, 67, 68, 69, 70, 71, 72, 73, 74, 75, 76, 77] (by decide +kernel) (by decide +kernel)
set_option maxRecDepth 20000 in
theorem gX7_step_X7_fails : GoodIn wsX7_step (wsV RX7 137 RX7 yX7_fails wsX7_fails) := goodIn_app (goodIn_of _ (by decide +kernel)) ggX7_step_X7_fails
set_option maxRecDepth 20000 in
theorem ggX7_step_X7_isBehind : GoodIn wsX7_step wsX7_isBehind := goodIn_r _ [27, 28, 5, 29, 7, 9, 8, 30, 31, 32, 13, 33, 34, 35, 36, 37, 38, 39, 40, 41, 46, 47, 48, 49, 50, 51, 52, 53, 54, 55, 56, 57, 58, 59, 60, 61, 62, 63, 64, 65, 66, 67, 68, 69, 70, 71, 72, 73, 74, 75, 76, 77] (by decide +kernel) (by decide +kernel)
set_option maxRecDepth 20000 in
theorem gX7_step_X7_isBehind : GoodIn wsX7_step (wsV RX7 207 RX7 yX7_isBehind wsX7_isBehind) := goodIn_app (goodIn_of _ (by decide +kernel)) ggX7_step_X7_isBehind
set_option maxRecDepth 20000 in
theorem ggX7_step_X7_isSooner : GoodIn wsX7_step wsX7_isSooner := goodIn_r _ [45, 28, 29, 9, 30, 31, 32, 13, 33, 34, 38, 39, 40, 41, 35, 36, 37, 46, 47, 48, 49, 50, 51, 52, 53, 54, 55, 56, 57, 58, 59, 60, 61, 62, 63, 64, 65, 66, 67, 68, 69, 70, 71, 72, 73, 74, 75, 76, 77] (by decide +kernel) (by decide +kernel)
set_option maxRecDepth 20000 in
theorem gX7_step_X7_isSooner : GoodIn wsX7_step (wsV RX7 210 RX7 yX7_isSooner wsX7_isSooner) := goodIn_app (goodIn_of _ (by decide +kernel)) ggX7_step_X7_isSooner
set_option maxRecDepth 20000 in
theorem ggX7_step_X7_entry : GoodIn wsX7_step wsX7_entry := goodIn_r _ [33, 29, 34, 46, 47, 48, 49, 50, 51, 52, 53, 54, 55, 56, 57, 58, 59, 60, 61, 62, 63, 64, 65, 66, 67, 68, 69, 70, 71, 72, 73, 74, 75, 76, 77] (by decide +kernel) (by decide +kernel)
set_option maxRecDepth 20000 in
theorem gX7_step_X7_entry : GoodIn wsX7_step (wsV RX7 197 RX7 yX7_entry wsX7_entry) := goodIn_app (goodIn_of _ (by decide +kernel)) ggX7_step_X7_entry
theorem dX7_step_0 : decode cX7_step 0 = .ok (.aload_n 0, 1) := by decide +kernel
theorem dX7_step_1 : decode cX7_step 1 = .ok (.iload_n 1, 1) := by decide +kernel
theorem dX7_step_2 : decode cX7_step 2 = .ok (.invokevirtual 204, 3) := by decide +kernel
theorem dX7_step_5 : decode cX7_step 5 = .ok (.istore_n 2, 1) := by decide +kernel
theorem dX7_step_6 : decode cX7_step 6 = .ok (.iload_n 2, 1) := by decide +kernel
theorem dX7_step_7 : decode cX7_step 7 = .ok (.ifCond .eq 46, 3) := by decide +kernel
theorem dX7_step_10 : decode cX7_step 10 = .ok (.aload_n 0, 1) := by decide +kernel
theorem dX7_step_11 : decode cX7_step 11 = .ok (.getfield 69, 3) := by decide +kernel
theorem dX7_step_14 : decode cX7_step 14 = .ok (.aload_n 0, 1) := by decide +kernel
theorem dX7_step_15 : decode cX7_step 15 = .ok (.getfield 72, 3) := by decide +kernel
theorem dX7_step_18 : decode cX7_step 18 = .ok (.iload_n 1, 1) := by decide +kernel
theorem dX7_step_19 : decode cX7_step 19 = .ok (.iaload, 1) := by decide +kernel
theorem dX7_step_20 : decode cX7_step 20 = .ok (.iaload, 1) := by decide +kernel
theorem dX7_step_21 : decode cX7_step 21 = .ok (.iconst 1, 1) := by decide +kernel
theorem dX7_step_22 : decode cX7_step 22 = .ok (.if_icmp .ne 31, 3) := by decide +kernel
theorem dX7_step_25 : decode cX7_step 25 = .ok (.aload_n 0, 1) := by decide +kernel
theorem dX7_step_26 : decode cX7_step 26 = .ok (.getfield 23, 3) := by decide +kernel
theorem dX7_step_29 : decode cX7_step 29 = .ok (.aload_n 0, 1) := by decide +kernel
theorem dX7_step_30 : decode cX7_step 30 = .ok (.getfield 75, 3) := by decide +kernel
theorem dX7_step_33 : decode cX7_step 33 = .ok (.iload_n 1, 1) := by decide +kernel
theorem dX7_step_34 : decode cX7_step 34 = .ok (.iaload, 1) := by decide +kernel
theorem dX7_step_35 : decode cX7_step 35 = .ok (.baload, 1) := by decide +kernel
theorem dX7_step_36 : decode cX7_step 36 = .ok (.ifCond .eq 17, 3) := by decide +kernel
theorem dX7_step_39 : decode cX7_step 39 = .ok (.aload_n 0, 1) := by decide +kernel
theorem dX7_step_40 : decode cX7_step 40 = .ok (.getfield 84, 3) := by decide +kernel
theorem dX7_step_43 : decode cX7_step 43 = .ok (.iload_n 1, 1) := by decide +kernel
theorem dX7_step_44 : decode cX7_step 44 = .ok (.iaload, 1) := by decide +kernel
theorem dX7_step_45 : decode cX7_step 45 = .ok (.iconst 2, 1) := by decide +kernel
theorem dX7_step_46 : decode cX7_step 46 = .ok (.if_icmp .ge 7, 3) := by decide +kernel
theorem dX7_step_49 : decode cX7_step 49 = .ok (.iconst 1, 1) := by decide +kernel
theorem dX7_step_50 : decode cX7_step 50 = .ok (.goto 4, 3) := by decide +kernel
theorem dX7_step_53 : decode cX7_step 53 = .ok (.iconst 0, 1) := by decide +kernel
theorem dX7_step_54 : decode cX7_step 54 = .ok (.istore_n 3, 1) := by decide +kernel
theorem dX7_step_55 : decode cX7_step 55 = .ok (.aload_n 0, 1) := by decide +kernel
theorem dX7_step_56 : decode cX7_step 56 = .ok (.iload_n 2, 1) := by decide +kernel
theorem dX7_step_57 : decode cX7_step 57 = .ok (.ifCond .ne 7, 3) := by decide +kernel
theorem dX7_step_60 : decode cX7_step 60 = .ok (.iconst 1, 1) := by decide +kernel
theorem dX7_step_61 : decode cX7_step 61 = .ok (.goto 12, 3) := by decide +kernel
theorem dX7_step_64 : decode cX7_step 64 = .ok (.iload_n 3, 1) := by decide +kernel
theorem dX7_step_65 : decode cX7_step 65 = .ok (.ifCond .eq 7, 3) := by decide +kernel
theorem dX7_step_68 : decode cX7_step 68 = .ok (.iconst 0, 1) := by decide +kernel
theorem dX7_step_69 : decode cX7_step 69 = .ok (.goto 4, 3) := by decide +kernel
theorem dX7_step_72 : decode cX7_step 72 = .ok (.iconst 2, 1) := by decide +kernel
theorem dX7_step_73 : decode cX7_step 73 = .ok (.invokevirtual 137, 3) := by decide +kernel
theorem dX7_step_76 : decode cX7_step 76 = .ok (.ifCond .eq 5, 3) := by decide +kernel
theorem dX7_step_79 : decode cX7_step 79 = .ok (.iconst 0, 1) := by decide +kernel
theorem dX7_step_80 : decode cX7_step 80 = .ok (.ireturn, 1) := by decide +kernel
theorem dX7_step_81 : decode cX7_step 81 = .ok (.iconst (-1), 1) := by decide +kernel
theorem dX7_step_82 : decode cX7_step 82 = .ok (.istore 4, 2) := by decide +kernel
theorem dX7_step_84 : decode cX7_step 84 = .ok (.aload_n 0, 1) := by decide +kernel
theorem dX7_step_85 : decode cX7_step 85 = .ok (.getfield 75, 3) := by decide +kernel
theorem dX7_step_88 : decode cX7_step 88 = .ok (.iload_n 1, 1) := by decide +kernel
theorem dX7_step_89 : decode cX7_step 89 = .ok (.iaload, 1) := by decide +kernel
theorem dX7_step_90 : decode cX7_step 90 = .ok (.istore 5, 2) := by decide +kernel
theorem dX7_step_92 : decode cX7_step 92 = .ok (.bipush 40, 2) := by decide +kernel
theorem dX7_step_94 : decode cX7_step 94 = .ok (.iload 5, 2) := by decide +kernel
theorem dX7_step_96 : decode cX7_step 96 = .ok (.imul, 1) := by decide +kernel
theorem dX7_step_97 : decode cX7_step 97 = .ok (.istore 6, 2) := by decide +kernel
theorem dX7_step_99 : decode cX7_step 99 = .ok (.iload 6, 2) := by decide +kernel
theorem dX7_step_101 : decode cX7_step 101 = .ok (.bipush 40, 2) := by decide +kernel
theorem dX7_step_103 : decode cX7_step 103 = .ok (.iload 5, 2) := by decide +kernel
theorem dX7_step_105 : decode cX7_step 105 = .ok (.imul, 1) := by decide +kernel
theorem dX7_step_106 : decode cX7_step 106 = .ok (.aload_n 0, 1) := by decide +kernel
theorem dX7_step_107 : decode cX7_step 107 = .ok (.getfield 30, 3) := by decide +kernel
theorem dX7_step_110 : decode cX7_step 110 = .ok (.iload 5, 2) := by decide +kernel
theorem dX7_step_112 : decode cX7_step 112 = .ok (.iaload, 1) := by decide +kernel
theorem dX7_step_113 : decode cX7_step 113 = .ok (.iadd, 1) := by decide +kernel
theorem dX7_step_114 : decode cX7_step 114 = .ok (.if_icmp .ge 46, 3) := by decide +kernel
theorem dX7_step_117 : decode cX7_step 117 = .ok (.aload_n 0, 1) := by decide +kernel
theorem dX7_step_118 : decode cX7_step 118 = .ok (.iload_n 1, 1) := by decide +kernel
theorem dX7_step_119 : decode cX7_step 119 = .ok (.iload 6, 2) := by decide +kernel
theorem dX7_step_121 : decode cX7_step 121 = .ok (.invokevirtual 207, 3) := by decide +kernel
theorem dX7_step_124 : decode cX7_step 124 = .ok (.ifCond .eq 26, 3) := by decide +kernel
theorem dX7_step_127 : decode cX7_step 127 = .ok (.iload 4, 2) := by decide +kernel
theorem dX7_step_129 : decode cX7_step 129 = .ok (.iconst (-1), 1) := by decide +kernel
theorem dX7_step_130 : decode cX7_step 130 = .ok (.if_icmp .eq 15, 3) := by decide +kernel
theorem dX7_step_133 : decode cX7_step 133 = .ok (.aload_n 0, 1) := by decide +kernel
theorem dX7_step_134 : decode cX7_step 134 = .ok (.iload_n 1, 1) := by decide +kernel
theorem dX7_step_135 : decode cX7_step 135 = .ok (.iload 6, 2) := by decide +kernel
theorem dX7_step_137 : decode cX7_step 137 = .ok (.iload 4, 2) := by decide +kernel
theorem dX7_step_139 : decode cX7_step 139 = .ok (.invokevirtual 210, 3) := by decide +kernel
theorem dX7_step_142 : decode cX7_step 142 = .ok (.ifCond .eq 8, 3) := by decide +kernel
theorem dX7_step_145 : decode cX7_step 145 = .ok (.iload 6, 2) := by decide +kernel
theorem dX7_step_147 : decode cX7_step 147 = .ok (.goto 5, 3) := by decide +kernel
theorem dX7_step_150 : decode cX7_step 150 = .ok (.iload 4, 2) := by decide +kernel
theorem dX7_step_152 : decode cX7_step 152 = .ok (.istore 4, 2) := by decide +kernel
theorem dX7_step_154 : decode cX7_step 154 = .ok (.iinc 6 1, 3) := by decide +kernel
theorem dX7_step_157 : decode cX7_step 157 = .ok (.goto (-58), 3) := by decide +kernel
theorem dX7_step_160 : decode cX7_step 160 = .ok (.aload_n 0, 1) := by decide +kernel
theorem dX7_step_161 : decode cX7_step 161 = .ok (.getfield 84, 3) := by decide +kernel
theorem dX7_step_164 : decode cX7_step 164 = .ok (.iload_n 1, 1) := by decide +kernel
theorem dX7_step_165 : decode cX7_step 165 = .ok (.iload 4, 2) := by decide +kernel
theorem dX7_step_167 : decode cX7_step 167 = .ok (.iconst (-1), 1) := by decide +kernel
theorem dX7_step_168 : decode cX7_step 168 = .ok (.if_icmp .ne 7, 3) := by decide +kernel
theorem dX7_step_171 : decode cX7_step 171 = .ok (.iconst 2, 1) := by decide +kernel
theorem dX7_step_172 : decode cX7_step 172 = .ok (.goto 4, 3) := by decide +kernel
theorem dX7_step_175 : decode cX7_step 175 = .ok (.iconst 1, 1) := by decide +kernel
theorem dX7_step_176 : decode cX7_step 176 = .ok (.iastore, 1) := by decide +kernel
theorem dX7_step_177 : decode cX7_step 177 = .ok (.iload 4, 2) := by decide +kernel
theorem dX7_step_179 : decode cX7_step 179 = .ok (.iconst (-1), 1) := by decide +kernel
theorem dX7_step_180 : decode cX7_step 180 = .ok (.if_icmp .ne 5, 3) := by decide +kernel
theorem dX7_step_183 : decode cX7_step 183 = .ok (.iconst (-1), 1) := by decide +kernel
theorem dX7_step_184 : decode cX7_step 184 = .ok (.ireturn, 1) := by decide +kernel
theorem dX7_step_185 : decode cX7_step 185 = .ok (.aload_n 0, 1) := by decide +kernel
theorem dX7_step_186 : decode cX7_step 186 = .ok (.getfield 87, 3) := by decide +kernel
theorem dX7_step_189 : decode cX7_step 189 = .ok (.iload_n 1, 1) := by decide +kernel
theorem dX7_step_190 : decode cX7_step 190 = .ok (.aload_n 0, 1) := by decide +kernel
theorem dX7_step_191 : decode cX7_step 191 = .ok (.iload_n 1, 1) := by decide +kernel
theorem dX7_step_192 : decode cX7_step 192 = .ok (.iload 4, 2) := by decide +kernel
theorem dX7_step_194 : decode cX7_step 194 = .ok (.invokevirtual 197, 3) := by decide +kernel
theorem dX7_step_197 : decode cX7_step 197 = .ok (.iastore, 1) := by decide +kernel
theorem dX7_step_198 : decode cX7_step 198 = .ok (.aload_n 0, 1) := by decide +kernel
theorem dX7_step_199 : decode cX7_step 199 = .ok (.getfield 90, 3) := by decide +kernel
theorem dX7_step_202 : decode cX7_step 202 = .ok (.iload_n 1, 1) := by decide +kernel
theorem dX7_step_203 : decode cX7_step 203 = .ok (.aload_n 0, 1) := by decide +kernel
theorem dX7_step_204 : decode cX7_step 204 = .ok (.getfield 33, 3) := by decide +kernel
theorem dX7_step_207 : decode cX7_step 207 = .ok (.iload 4, 2) := by decide +kernel
theorem dX7_step_209 : decode cX7_step 209 = .ok (.iaload, 1) := by decide +kernel
theorem dX7_step_210 : decode cX7_step 210 = .ok (.iastore, 1) := by decide +kernel
theorem dX7_step_211 : decode cX7_step 211 = .ok (.aload_n 0, 1) := by decide +kernel
theorem dX7_step_212 : decode cX7_step 212 = .ok (.getfield 33, 3) := by decide +kernel
theorem dX7_step_215 : decode cX7_step 215 = .ok (.iload 4, 2) := by decide +kernel
theorem dX7_step_217 : decode cX7_step 217 = .ok (.iaload, 1) := by decide +kernel
theorem dX7_step_218 : decode cX7_step 218 = .ok (.ireturn, 1) := by decide +kernel
set_option maxRecDepth 20000 in
theorem ggX7_update_X7_isCursor : GoodIn wsX7_update wsX7_isCursor := goodIn_r _ [11, 12, 13, 14, 10, 15, 34, 35, 36, 37, 38, 39, 40, 41, 42, 43, 44, 45, 46, 47, 48, 49, 50, 51, 52, 53, 54, 55, 56, 57, 58, 59, 60, 61, 62, 63, 64, 65] (by decide +kernel) (by decide +kernel)
set_option maxRecDepth 20000 in
theorem gX7_update_X7_isCursor : GoodIn wsX7_update (wsV RX7 204 RX7 yX7_isCursor wsX7_isCursor) := goodIn_app (goodIn_of _ (by decide +kernel)) ggX7_update_X7_isCursor
set_option maxRecDepth 20000 in
theorem ggX7_update_X7_can : GoodIn wsX7_update wsX7_can := goodIn_r _ [19, 20, 21, 22, 34, 35, 36, 37, 38, 39, 40, 41, 42, 43, 44, 45, 46, 47, 48, 49, 50, 51, 52, 53, 54, 55, 56, 57, 58, 59, 60, 61, 62, 63, 64, 65] (by decide +kernel) (by decide +kernel)
set_option maxRecDepth 20000 in
theorem gX7_update_X7_can : GoodIn wsX7_update (wsV RX7 175 RX7 yX7_can wsX7_can) := goodIn_app (goodIn_of _ (by decide +kernel)) ggX7_update_X7_can
set_option maxRecDepth 20000 in
theorem ggX7_update_X7_find : GoodIn wsX7_update wsX7_find := goodIn_r _ [26, 27, 28, 34, 35, 36, 37, 38, 39, 40, 41, 42, 43, 44, 45, 46, 47, 48, 49, 50, 51, 52, 53, 54, 55, 56, 57, 58, 59, 60, 61, 62, 63, 64, 65] (by decide +kernel) (by decide +kernel)
set_option maxRecDepth 20000 in
theorem gX7_update_X7_find : GoodIn wsX7_update (wsV RX7 171 RX7 yX7_find wsX7_find) := goodIn_app (goodIn_of _ (by decide +kernel)) ggX7_update_X7_find
set_option maxRecDepth 20000 in
theorem ggX7_update_X7_isIn : GoodIn wsX7_update wsX7_isIn := goodIn_r _ [15] (by decide +kernel) (by decide +kernel)
set_option maxRecDepth 20000 in
theorem gX7_update_X7_isIn : GoodIn wsX7_update (va_wsS RX7 96 yX7_isIn wsX7_isIn) := goodIn_app (goodIn_of _ (by decide +kernel)) ggX7_update_X7_isIn
set_option maxRecDepth 20000 in
theorem ggX7_update_X7_fails : GoodIn wsX7_update wsX7_fails := goodIn_r _ [32, 33, 34, 35, 36, 37, 38, 39, 40, 41, 42, 43, 44, 45, 46, 47, 48, 49, 50, 51, 52, 53, 54, 55, 56, 57, 58, 59, 60, 61, 62, 63, 64, 65] (by decide +kernel) (by decide +kernel)
set_option maxRecDepth 20000 in
theorem gX7_update_X7_fails : GoodIn wsX7_update (wsV RX7 137 RX7 yX7_fails wsX7_fails) := goodIn_app (goodIn_of _ (by decide +kernel)) ggX7_update_X7_fails
theorem dX7_update_0 : decode cX7_update 0 = .ok (.aload_n 0, 1) := by decide +kernel
theorem dX7_update_1 : decode cX7_update 1 = .ok (.iload_n 1, 1) := by decide +kernel
theorem dX7_update_2 : decode cX7_update 2 = .ok (.invokevirtual 204, 3) := by decide +kernel
theorem dX7_update_5 : decode cX7_update 5 = .ok (.istore_n 3, 1) := by decide +kernel
theorem dX7_update_6 : decode cX7_update 6 = .ok (.iload_n 3, 1) := by decide +kernel
theorem dX7_update_7 : decode cX7_update 7 = .ok (.ifCond .eq 51, 3) := by decide +kernel
theorem dX7_update_10 : decode cX7_update 10 = .ok (.aload_n 0, 1) := by decide +kernel
theorem dX7_update_11 : decode cX7_update 11 = .ok (.aload_n 0, 1) := by decide +kernel
theorem dX7_update_12 : decode cX7_update 12 = .ok (.getfield 72, 3) := by decide +kernel
theorem dX7_update_15 : decode cX7_update 15 = .ok (.iload_n 1, 1) := by decide +kernel
theorem dX7_update_16 : decode cX7_update 16 = .ok (.iaload, 1) := by decide +kernel
theorem dX7_update_17 : decode cX7_update 17 = .ok (.aload_n 0, 1) := by decide +kernel
theorem dX7_update_18 : decode cX7_update 18 = .ok (.getfield 75, 3) := by decide +kernel
theorem dX7_update_21 : decode cX7_update 21 = .ok (.iload_n 1, 1) := by decide +kernel
theorem dX7_update_22 : decode cX7_update 22 = .ok (.iaload, 1) := by decide +kernel
theorem dX7_update_23 : decode cX7_update 23 = .ok (.iconst 1, 1) := by decide +kernel
theorem dX7_update_24 : decode cX7_update 24 = .ok (.invokevirtual 175, 3) := by decide +kernel
theorem dX7_update_27 : decode cX7_update 27 = .ok (.ifCond .eq 31, 3) := by decide +kernel
theorem dX7_update_30 : decode cX7_update 30 = .ok (.aload_n 0, 1) := by decide +kernel
theorem dX7_update_31 : decode cX7_update 31 = .ok (.getfield 84, 3) := by decide +kernel
theorem dX7_update_34 : decode cX7_update 34 = .ok (.iload_n 1, 1) := by decide +kernel
theorem dX7_update_35 : decode cX7_update 35 = .ok (.iaload, 1) := by decide +kernel
theorem dX7_update_36 : decode cX7_update 36 = .ok (.iconst 1, 1) := by decide +kernel
theorem dX7_update_37 : decode cX7_update 37 = .ok (.if_icmp .ne 21, 3) := by decide +kernel
theorem dX7_update_40 : decode cX7_update 40 = .ok (.aload_n 0, 1) := by decide +kernel
theorem dX7_update_41 : decode cX7_update 41 = .ok (.getfield 23, 3) := by decide +kernel
theorem dX7_update_44 : decode cX7_update 44 = .ok (.aload_n 0, 1) := by decide +kernel
theorem dX7_update_45 : decode cX7_update 45 = .ok (.getfield 75, 3) := by decide +kernel
theorem dX7_update_48 : decode cX7_update 48 = .ok (.iload_n 1, 1) := by decide +kernel
theorem dX7_update_49 : decode cX7_update 49 = .ok (.iaload, 1) := by decide +kernel
theorem dX7_update_50 : decode cX7_update 50 = .ok (.baload, 1) := by decide +kernel
theorem dX7_update_51 : decode cX7_update 51 = .ok (.ifCond .eq 7, 3) := by decide +kernel
theorem dX7_update_54 : decode cX7_update 54 = .ok (.iconst 1, 1) := by decide +kernel
theorem dX7_update_55 : decode cX7_update 55 = .ok (.goto 4, 3) := by decide +kernel
theorem dX7_update_58 : decode cX7_update 58 = .ok (.iconst 0, 1) := by decide +kernel
theorem dX7_update_59 : decode cX7_update 59 = .ok (.istore 4, 2) := by decide +kernel
theorem dX7_update_61 : decode cX7_update 61 = .ok (.iload 4, 2) := by decide +kernel
theorem dX7_update_63 : decode cX7_update 63 = .ok (.ifCond .eq 22, 3) := by decide +kernel
theorem dX7_update_66 : decode cX7_update 66 = .ok (.aload_n 0, 1) := by decide +kernel
theorem dX7_update_67 : decode cX7_update 67 = .ok (.aload_n 0, 1) := by decide +kernel
theorem dX7_update_68 : decode cX7_update 68 = .ok (.getfield 75, 3) := by decide +kernel
theorem dX7_update_71 : decode cX7_update 71 = .ok (.iload_n 1, 1) := by decide +kernel
theorem dX7_update_72 : decode cX7_update 72 = .ok (.iaload, 1) := by decide +kernel
theorem dX7_update_73 : decode cX7_update 73 = .ok (.aload_n 0, 1) := by decide +kernel
theorem dX7_update_74 : decode cX7_update 74 = .ok (.getfield 90, 3) := by decide +kernel
theorem dX7_update_77 : decode cX7_update 77 = .ok (.iload_n 1, 1) := by decide +kernel
theorem dX7_update_78 : decode cX7_update 78 = .ok (.iaload, 1) := by decide +kernel
theorem dX7_update_79 : decode cX7_update 79 = .ok (.invokevirtual 171, 3) := by decide +kernel
theorem dX7_update_82 : decode cX7_update 82 = .ok (.goto 4, 3) := by decide +kernel
theorem dX7_update_85 : decode cX7_update 85 = .ok (.iconst (-1), 1) := by decide +kernel
theorem dX7_update_86 : decode cX7_update 86 = .ok (.istore 5, 2) := by decide +kernel
theorem dX7_update_88 : decode cX7_update 88 = .ok (.aload_n 0, 1) := by decide +kernel
theorem dX7_update_89 : decode cX7_update 89 = .ok (.iload_n 3, 1) := by decide +kernel
theorem dX7_update_90 : decode cX7_update 90 = .ok (.ifCond .ne 7, 3) := by decide +kernel
theorem dX7_update_93 : decode cX7_update 93 = .ok (.iconst 1, 1) := by decide +kernel
theorem dX7_update_94 : decode cX7_update 94 = .ok (.goto 29, 3) := by decide +kernel
theorem dX7_update_97 : decode cX7_update 97 = .ok (.iload_n 2, 1) := by decide +kernel
theorem dX7_update_98 : decode cX7_update 98 = .ok (.iconst 0, 1) := by decide +kernel
theorem dX7_update_99 : decode cX7_update 99 = .ok (.sipush 9999, 3) := by decide +kernel
theorem dX7_update_102 : decode cX7_update 102 = .ok (.invokestatic 96, 3) := by decide +kernel
theorem dX7_update_105 : decode cX7_update 105 = .ok (.ifCond .ne 7, 3) := by decide +kernel
theorem dX7_update_108 : decode cX7_update 108 = .ok (.iconst 2, 1) := by decide +kernel
theorem dX7_update_109 : decode cX7_update 109 = .ok (.goto 14, 3) := by decide +kernel
theorem dX7_update_112 : decode cX7_update 112 = .ok (.iload 5, 2) := by decide +kernel
theorem dX7_update_114 : decode cX7_update 114 = .ok (.iconst (-1), 1) := by decide +kernel
theorem dX7_update_115 : decode cX7_update 115 = .ok (.if_icmp .ne 7, 3) := by decide +kernel
theorem dX7_update_118 : decode cX7_update 118 = .ok (.iconst 3, 1) := by decide +kernel
theorem dX7_update_119 : decode cX7_update 119 = .ok (.goto 4, 3) := by decide +kernel
theorem dX7_update_122 : decode cX7_update 122 = .ok (.iconst 0, 1) := by decide +kernel
theorem dX7_update_123 : decode cX7_update 123 = .ok (.invokevirtual 137, 3) := by decide +kernel
theorem dX7_update_126 : decode cX7_update 126 = .ok (.ifCond .eq 5, 3) := by decide +kernel
theorem dX7_update_129 : decode cX7_update 129 = .ok (.iconst 0, 1) := by decide +kernel
theorem dX7_update_130 : decode cX7_update 130 = .ok (.ireturn, 1) := by decide +kernel
theorem dX7_update_131 : decode cX7_update 131 = .ok (.aload_n 0, 1) := by decide +kernel
theorem dX7_update_132 : decode cX7_update 132 = .ok (.getfield 36, 3) := by decide +kernel
theorem dX7_update_135 : decode cX7_update 135 = .ok (.iload 5, 2) := by decide +kernel
theorem dX7_update_137 : decode cX7_update 137 = .ok (.iaload, 1) := by decide +kernel
theorem dX7_update_138 : decode cX7_update 138 = .ok (.istore 6, 2) := by decide +kernel
theorem dX7_update_140 : decode cX7_update 140 = .ok (.aload_n 0, 1) := by decide +kernel
theorem dX7_update_141 : decode cX7_update 141 = .ok (.getfield 36, 3) := by decide +kernel
theorem dX7_update_144 : decode cX7_update 144 = .ok (.iload 5, 2) := by decide +kernel
theorem dX7_update_146 : decode cX7_update 146 = .ok (.iload_n 2, 1) := by decide +kernel
theorem dX7_update_147 : decode cX7_update 147 = .ok (.iastore, 1) := by decide +kernel
theorem dX7_update_148 : decode cX7_update 148 = .ok (.iload 6, 2) := by decide +kernel
theorem dX7_update_150 : decode cX7_update 150 = .ok (.ireturn, 1) := by decide +kernel
