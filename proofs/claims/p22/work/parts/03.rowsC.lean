/-! ===== printed: the class's rows ===== -/
theorem dX0_init_0 : decode cX0_init 0 = .ok (.aload_n 0, 1) := by decide +kernel
theorem dX0_init_1 : decode cX0_init 1 = .ok (.invokespecial 3, 3) := by decide +kernel
theorem dX0_init_4 : decode cX0_init 4 = .ok (.aload_n 0, 1) := by decide +kernel
theorem dX0_init_5 : decode cX0_init 5 = .ok (.iconst 0, 1) := by decide +kernel
theorem dX0_init_6 : decode cX0_init 6 = .ok (.putfield 11, 3) := by decide +kernel
theorem dX0_init_9 : decode cX0_init 9 = .ok (.aload_n 0, 1) := by decide +kernel
theorem dX0_init_10 : decode cX0_init 10 = .ok (.iconst 0, 1) := by decide +kernel
theorem dX0_init_11 : decode cX0_init 11 = .ok (.putfield 15, 3) := by decide +kernel
theorem dX0_init_14 : decode cX0_init 14 = .ok (.aload_n 0, 1) := by decide +kernel
theorem dX0_init_15 : decode cX0_init 15 = .ok (.lconst 0, 1) := by decide +kernel
theorem dX0_init_16 : decode cX0_init 16 = .ok (.putfield 18, 3) := by decide +kernel
theorem dX0_init_19 : decode cX0_init 19 = .ok (.aload_n 0, 1) := by decide +kernel
theorem dX0_init_20 : decode cX0_init 20 = .ok (.aload_n 1, 1) := by decide +kernel
theorem dX0_init_21 : decode cX0_init 21 = .ok (.putfield 22, 3) := by decide +kernel
theorem dX0_init_24 : decode cX0_init 24 = .ok (.aload_n 0, 1) := by decide +kernel
theorem dX0_init_25 : decode cX0_init 25 = .ok (.aload_n 2, 1) := by decide +kernel
theorem dX0_init_26 : decode cX0_init 26 = .ok (.putfield 26, 3) := by decide +kernel
theorem dX0_init_29 : decode cX0_init 29 = .ok (.aload_n 0, 1) := by decide +kernel
theorem dX0_init_30 : decode cX0_init 30 = .ok (.iload_n 3, 1) := by decide +kernel
theorem dX0_init_31 : decode cX0_init 31 = .ok (.putfield 30, 3) := by decide +kernel
theorem dX0_init_34 : decode cX0_init 34 = .ok (.aload_n 0, 1) := by decide +kernel
theorem dX0_init_35 : decode cX0_init 35 = .ok (.iload 4, 2) := by decide +kernel
theorem dX0_init_37 : decode cX0_init 37 = .ok (.iconst 1, 1) := by decide +kernel
theorem dX0_init_38 : decode cX0_init 38 = .ok (.if_icmp .eq 9, 3) := by decide +kernel
theorem dX0_init_41 : decode cX0_init 41 = .ok (.iload 4, 2) := by decide +kernel
theorem dX0_init_43 : decode cX0_init 43 = .ok (.iconst 3, 1) := by decide +kernel
theorem dX0_init_44 : decode cX0_init 44 = .ok (.if_icmp .ne 7, 3) := by decide +kernel
theorem dX0_init_47 : decode cX0_init 47 = .ok (.iconst 1, 1) := by decide +kernel
theorem dX0_init_48 : decode cX0_init 48 = .ok (.goto 4, 3) := by decide +kernel
theorem dX0_init_51 : decode cX0_init 51 = .ok (.iconst 0, 1) := by decide +kernel
theorem dX0_init_52 : decode cX0_init 52 = .ok (.putfield 33, 3) := by decide +kernel
theorem dX0_init_55 : decode cX0_init 55 = .ok (.aload_n 0, 1) := by decide +kernel
theorem dX0_init_56 : decode cX0_init 56 = .ok (.iload 4, 2) := by decide +kernel
theorem dX0_init_58 : decode cX0_init 58 = .ok (.iconst 2, 1) := by decide +kernel
theorem dX0_init_59 : decode cX0_init 59 = .ok (.if_icmp .lt 12, 3) := by decide +kernel
theorem dX0_init_62 : decode cX0_init 62 = .ok (.iload_n 3, 1) := by decide +kernel
theorem dX0_init_63 : decode cX0_init 63 = .ok (.iconst (-1), 1) := by decide +kernel
theorem dX0_init_64 : decode cX0_init 64 = .ok (.if_icmp .eq 7, 3) := by decide +kernel
theorem dX0_init_67 : decode cX0_init 67 = .ok (.iconst 1, 1) := by decide +kernel
theorem dX0_init_68 : decode cX0_init 68 = .ok (.goto 4, 3) := by decide +kernel
theorem dX0_init_71 : decode cX0_init 71 = .ok (.iconst 0, 1) := by decide +kernel
theorem dX0_init_72 : decode cX0_init 72 = .ok (.putfield 37, 3) := by decide +kernel
theorem dX0_init_75 : decode cX0_init 75 = .ok (.return_, 1) := by decide +kernel
set_option maxRecDepth 20000 in
theorem ggX0_nextRow_X0_nextBackward : GoodIn wsX0_nextRow wsX0_nextBackward := goodIn_r _ [6, 7, 8, 9, 10, 11, 12, 13, 14, 15, 16, 17, 18, 19, 20, 21, 22, 23, 24, 25, 26, 27, 28, 29, 30, 31, 32, 33, 34, 35, 36, 37, 38, 39, 40, 41, 42, 43, 44, 45, 46, 47, 48, 49, 50, 51, 52, 53, 54, 55, 56, 57, 58, 59, 60, 61, 62, 63, 64, 65, 66, 67, 68, 69, 70, 76, 77, 78, 79, 80, 81, 82, 83, 84, 85, 86, 87, 88, 89, 90, 91, 92, 93] (by decide +kernel) (by decide +kernel)
set_option maxRecDepth 20000 in
theorem gX0_nextRow_X0_nextBackward : GoodIn wsX0_nextRow (wsV RX0 40 RX0 yX0_nextBackward wsX0_nextBackward) := goodIn_app (goodIn_of _ (by decide +kernel)) ggX0_nextRow_X0_nextBackward
set_option maxRecDepth 20000 in
theorem ggX0_nextRow_X0_nextForward : GoodIn wsX0_nextRow wsX0_nextForward := goodIn_r _ [74, 8, 11, 12, 9, 10, 75, 67, 68, 69, 21, 70, 23, 24, 25, 26, 27, 28, 29, 30, 31, 32, 33, 34, 35, 36, 37, 38, 39, 40, 41, 42, 43, 44, 45, 46, 47, 48, 49, 50, 15, 51, 52, 53, 17, 54, 55, 56, 57, 58, 59, 60, 61, 62, 63, 64, 65, 13, 14, 16, 76, 77, 78, 79, 80, 81, 82, 83, 84, 85, 86, 87, 88, 89, 90, 91, 92, 93] (by decide +kernel) (by decide +kernel)
set_option maxRecDepth 20000 in
theorem gX0_nextRow_X0_nextForward : GoodIn wsX0_nextRow (wsV RX0 44 RX0 yX0_nextForward wsX0_nextForward) := goodIn_app (goodIn_of _ (by decide +kernel)) ggX0_nextRow_X0_nextForward
theorem dX0_nextRow_0 : decode cX0_nextRow 0 = .ok (.aload_n 0, 1) := by decide +kernel
theorem dX0_nextRow_1 : decode cX0_nextRow 1 = .ok (.getfield 33, 3) := by decide +kernel
theorem dX0_nextRow_4 : decode cX0_nextRow 4 = .ok (.ifCond .eq 10, 3) := by decide +kernel
theorem dX0_nextRow_7 : decode cX0_nextRow 7 = .ok (.aload_n 0, 1) := by decide +kernel
theorem dX0_nextRow_8 : decode cX0_nextRow 8 = .ok (.invokevirtual 40, 3) := by decide +kernel
theorem dX0_nextRow_11 : decode cX0_nextRow 11 = .ok (.goto 7, 3) := by decide +kernel
theorem dX0_nextRow_14 : decode cX0_nextRow 14 = .ok (.aload_n 0, 1) := by decide +kernel
theorem dX0_nextRow_15 : decode cX0_nextRow 15 = .ok (.invokevirtual 44, 3) := by decide +kernel
theorem dX0_nextRow_18 : decode cX0_nextRow 18 = .ok (.areturn, 1) := by decide +kernel
set_option maxRecDepth 20000 in
theorem ggX0_nextForward_X3_firstFrom : GoodIn wsX0_nextForward wsX3_firstFrom := goodIn_r _ [11, 12, 13, 14, 15, 16, 17, 18, 19, 20, 21, 22, 23, 24, 25, 26, 27, 28, 29, 30, 31, 32, 33, 34, 35, 36, 37, 38, 39, 40, 41, 42, 43, 44, 45, 46, 47, 48, 49, 50, 51, 52, 53, 54, 55, 56, 68, 69, 70, 71, 72, 73, 74, 75, 76, 77] (by decide +kernel) (by decide +kernel)
set_option maxRecDepth 20000 in
theorem gX0_nextForward_X3_firstFrom : GoodIn wsX0_nextForward (wsV RX0 47 RX3 yX3_firstFrom wsX3_firstFrom) := goodIn_app (goodIn_of _ (by decide +kernel)) ggX0_nextForward_X3_firstFrom
set_option maxRecDepth 20000 in
theorem ggX0_nextForward_X2_startOfNumber : GoodIn wsX0_nextForward wsX2_startOfNumber := goodIn_r _ [59, 44] (by decide +kernel) (by decide +kernel)
set_option maxRecDepth 20000 in
theorem gX0_nextForward_X2_startOfNumber : GoodIn wsX0_nextForward (va_wsS RX0 53 yX2_startOfNumber wsX2_startOfNumber) := goodIn_app (goodIn_of _ (by decide +kernel)) ggX0_nextForward_X2_startOfNumber
theorem dX0_nextForward_0 : decode cX0_nextForward 0 = .ok (.aload_n 0, 1) := by decide +kernel
theorem dX0_nextForward_1 : decode cX0_nextForward 1 = .ok (.getfield 11, 3) := by decide +kernel
theorem dX0_nextForward_4 : decode cX0_nextForward 4 = .ok (.ifCond .ne 16, 3) := by decide +kernel
theorem dX0_nextForward_7 : decode cX0_nextForward 7 = .ok (.aload_n 0, 1) := by decide +kernel
theorem dX0_nextForward_8 : decode cX0_nextForward 8 = .ok (.getfield 26, 3) := by decide +kernel
theorem dX0_nextForward_11 : decode cX0_nextForward 11 = .ok (.aload_n 0, 1) := by decide +kernel
theorem dX0_nextForward_12 : decode cX0_nextForward 12 = .ok (.getfield 30, 3) := by decide +kernel
theorem dX0_nextForward_15 : decode cX0_nextForward 15 = .ok (.lconst 0, 1) := by decide +kernel
theorem dX0_nextForward_16 : decode cX0_nextForward 16 = .ok (.invokevirtual 47, 3) := by decide +kernel
theorem dX0_nextForward_19 : decode cX0_nextForward 19 = .ok (.areturn, 1) := by decide +kernel
theorem dX0_nextForward_20 : decode cX0_nextForward 20 = .ok (.aload_n 0, 1) := by decide +kernel
theorem dX0_nextForward_21 : decode cX0_nextForward 21 = .ok (.getfield 37, 3) := by decide +kernel
theorem dX0_nextForward_24 : decode cX0_nextForward 24 = .ok (.ifCond .eq 17, 3) := by decide +kernel
theorem dX0_nextForward_27 : decode cX0_nextForward 27 = .ok (.aload_n 0, 1) := by decide +kernel
theorem dX0_nextForward_28 : decode cX0_nextForward 28 = .ok (.getfield 18, 3) := by decide +kernel
theorem dX0_nextForward_31 : decode cX0_nextForward 31 = .ok (.invokestatic 53, 3) := by decide +kernel
theorem dX0_nextForward_34 : decode cX0_nextForward 34 = .ok (.ldc2_w 59, 3) := by decide +kernel
theorem dX0_nextForward_37 : decode cX0_nextForward 37 = .ok (.ladd, 1) := by decide +kernel
theorem dX0_nextForward_38 : decode cX0_nextForward 38 = .ok (.goto 9, 3) := by decide +kernel
theorem dX0_nextForward_41 : decode cX0_nextForward 41 = .ok (.aload_n 0, 1) := by decide +kernel
theorem dX0_nextForward_42 : decode cX0_nextForward 42 = .ok (.getfield 18, 3) := by decide +kernel
theorem dX0_nextForward_45 : decode cX0_nextForward 45 = .ok (.lconst 1, 1) := by decide +kernel
theorem dX0_nextForward_46 : decode cX0_nextForward 46 = .ok (.ladd, 1) := by decide +kernel
theorem dX0_nextForward_47 : decode cX0_nextForward 47 = .ok (.lstore_n 1, 1) := by decide +kernel
theorem dX0_nextForward_48 : decode cX0_nextForward 48 = .ok (.aload_n 0, 1) := by decide +kernel
theorem dX0_nextForward_49 : decode cX0_nextForward 49 = .ok (.getfield 26, 3) := by decide +kernel
theorem dX0_nextForward_52 : decode cX0_nextForward 52 = .ok (.aload_n 0, 1) := by decide +kernel
theorem dX0_nextForward_53 : decode cX0_nextForward 53 = .ok (.getfield 30, 3) := by decide +kernel
theorem dX0_nextForward_56 : decode cX0_nextForward 56 = .ok (.lload_n 1, 1) := by decide +kernel
theorem dX0_nextForward_57 : decode cX0_nextForward 57 = .ok (.invokevirtual 47, 3) := by decide +kernel
theorem dX0_nextForward_60 : decode cX0_nextForward 60 = .ok (.areturn, 1) := by decide +kernel
set_option maxRecDepth 20000 in
theorem ggX0_nextBackward_X2_startOfNumber : GoodIn wsX0_nextBackward wsX2_startOfNumber := goodIn_r _ [10, 11] (by decide +kernel) (by decide +kernel)
set_option maxRecDepth 20000 in
theorem gX0_nextBackward_X2_startOfNumber : GoodIn wsX0_nextBackward (va_wsS RX0 53 yX2_startOfNumber wsX2_startOfNumber) := goodIn_app (goodIn_of _ (by decide +kernel)) ggX0_nextBackward_X2_startOfNumber
set_option maxRecDepth 20000 in
theorem ggX0_nextBackward_X3_lastBelow : GoodIn wsX0_nextBackward wsX3_lastBelow := goodIn_r _ [16, 17, 18, 19, 20, 21, 22, 23, 24, 25, 26, 27, 28, 29, 30, 31, 32, 33, 34, 35, 36, 37, 38, 39, 40, 41, 42, 43, 44, 9, 45, 46, 47, 11, 48, 49, 50, 51, 52, 53, 54, 55, 56, 57, 58, 59, 73, 74, 75, 76, 77, 78, 79, 80, 81, 82] (by decide +kernel) (by decide +kernel)
set_option maxRecDepth 20000 in
theorem gX0_nextBackward_X3_lastBelow : GoodIn wsX0_nextBackward (wsV RX0 63 RX3 yX3_lastBelow wsX3_lastBelow) := goodIn_app (goodIn_of _ (by decide +kernel)) ggX0_nextBackward_X3_lastBelow
set_option maxRecDepth 20000 in
theorem ggX0_nextBackward_X2_place : GoodIn wsX0_nextBackward wsX2_place := goodIn_r _ [45, 46, 47, 11, 48, 49, 50, 51, 52, 53, 54, 55, 56, 9, 57, 58, 59, 79, 80, 81, 82] (by decide +kernel) (by decide +kernel)
set_option maxRecDepth 20000 in
theorem gX0_nextBackward_X2_place : GoodIn wsX0_nextBackward (wsV RX0 66 RX2 yX2_place wsX2_place) := goodIn_app (goodIn_of _ (by decide +kernel)) ggX0_nextBackward_X2_place
set_option maxRecDepth 20000 in
theorem ggX0_nextBackward_X3_firstFrom : GoodIn wsX0_nextBackward wsX3_firstFrom := goodIn_r _ [64, 17, 18, 19, 20, 21, 22, 23, 24, 25, 26, 27, 28, 29, 30, 31, 32, 33, 34, 35, 36, 37, 38, 39, 40, 41, 42, 43, 44, 9, 45, 46, 47, 11, 48, 49, 50, 51, 52, 53, 54, 55, 56, 57, 58, 59, 73, 74, 75, 76, 77, 78, 79, 80, 81, 82] (by decide +kernel) (by decide +kernel)
set_option maxRecDepth 20000 in
theorem gX0_nextBackward_X3_firstFrom : GoodIn wsX0_nextBackward (wsV RX0 47 RX3 yX3_firstFrom wsX3_firstFrom) := goodIn_app (goodIn_of _ (by decide +kernel)) ggX0_nextBackward_X3_firstFrom
theorem dX0_nextBackward_0 : decode cX0_nextBackward 0 = .ok (.ldc2_w 61, 3) := by decide +kernel
theorem dX0_nextBackward_3 : decode cX0_nextBackward 3 = .ok (.lstore_n 1, 1) := by decide +kernel
theorem dX0_nextBackward_4 : decode cX0_nextBackward 4 = .ok (.aload_n 0, 1) := by decide +kernel
theorem dX0_nextBackward_5 : decode cX0_nextBackward 5 = .ok (.getfield 11, 3) := by decide +kernel
theorem dX0_nextBackward_8 : decode cX0_nextBackward 8 = .ok (.ifCond .eq 25, 3) := by decide +kernel
theorem dX0_nextBackward_11 : decode cX0_nextBackward 11 = .ok (.aload_n 0, 1) := by decide +kernel
theorem dX0_nextBackward_12 : decode cX0_nextBackward 12 = .ok (.getfield 37, 3) := by decide +kernel
theorem dX0_nextBackward_15 : decode cX0_nextBackward 15 = .ok (.ifCond .eq 13, 3) := by decide +kernel
theorem dX0_nextBackward_18 : decode cX0_nextBackward 18 = .ok (.aload_n 0, 1) := by decide +kernel
theorem dX0_nextBackward_19 : decode cX0_nextBackward 19 = .ok (.getfield 18, 3) := by decide +kernel
theorem dX0_nextBackward_22 : decode cX0_nextBackward 22 = .ok (.invokestatic 53, 3) := by decide +kernel
theorem dX0_nextBackward_25 : decode cX0_nextBackward 25 = .ok (.goto 7, 3) := by decide +kernel
theorem dX0_nextBackward_28 : decode cX0_nextBackward 28 = .ok (.aload_n 0, 1) := by decide +kernel
theorem dX0_nextBackward_29 : decode cX0_nextBackward 29 = .ok (.getfield 18, 3) := by decide +kernel
theorem dX0_nextBackward_32 : decode cX0_nextBackward 32 = .ok (.lstore_n 1, 1) := by decide +kernel
theorem dX0_nextBackward_33 : decode cX0_nextBackward 33 = .ok (.aload_n 0, 1) := by decide +kernel
theorem dX0_nextBackward_34 : decode cX0_nextBackward 34 = .ok (.getfield 26, 3) := by decide +kernel
theorem dX0_nextBackward_37 : decode cX0_nextBackward 37 = .ok (.aload_n 0, 1) := by decide +kernel
theorem dX0_nextBackward_38 : decode cX0_nextBackward 38 = .ok (.getfield 30, 3) := by decide +kernel
theorem dX0_nextBackward_41 : decode cX0_nextBackward 41 = .ok (.lload_n 1, 1) := by decide +kernel
theorem dX0_nextBackward_42 : decode cX0_nextBackward 42 = .ok (.invokevirtual 63, 3) := by decide +kernel
theorem dX0_nextBackward_45 : decode cX0_nextBackward 45 = .ok (.astore_n 3, 1) := by decide +kernel
theorem dX0_nextBackward_46 : decode cX0_nextBackward 46 = .ok (.aload_n 3, 1) := by decide +kernel
theorem dX0_nextBackward_47 : decode cX0_nextBackward 47 = .ok (.ifnull 10, 3) := by decide +kernel
theorem dX0_nextBackward_50 : decode cX0_nextBackward 50 = .ok (.aload_n 0, 1) := by decide +kernel
theorem dX0_nextBackward_51 : decode cX0_nextBackward 51 = .ok (.getfield 37, 3) := by decide +kernel
theorem dX0_nextBackward_54 : decode cX0_nextBackward 54 = .ok (.ifCond .ne 5, 3) := by decide +kernel
theorem dX0_nextBackward_57 : decode cX0_nextBackward 57 = .ok (.aload_n 3, 1) := by decide +kernel
theorem dX0_nextBackward_58 : decode cX0_nextBackward 58 = .ok (.areturn, 1) := by decide +kernel
theorem dX0_nextBackward_59 : decode cX0_nextBackward 59 = .ok (.aload_n 0, 1) := by decide +kernel
theorem dX0_nextBackward_60 : decode cX0_nextBackward 60 = .ok (.getfield 26, 3) := by decide +kernel
theorem dX0_nextBackward_63 : decode cX0_nextBackward 63 = .ok (.aload_n 0, 1) := by decide +kernel
theorem dX0_nextBackward_64 : decode cX0_nextBackward 64 = .ok (.getfield 30, 3) := by decide +kernel
theorem dX0_nextBackward_67 : decode cX0_nextBackward 67 = .ok (.aload_n 3, 1) := by decide +kernel
theorem dX0_nextBackward_68 : decode cX0_nextBackward 68 = .ok (.aload_n 0, 1) := by decide +kernel
theorem dX0_nextBackward_69 : decode cX0_nextBackward 69 = .ok (.getfield 30, 3) := by decide +kernel
theorem dX0_nextBackward_72 : decode cX0_nextBackward 72 = .ok (.invokevirtual 66, 3) := by decide +kernel
theorem dX0_nextBackward_75 : decode cX0_nextBackward 75 = .ok (.invokestatic 53, 3) := by decide +kernel
theorem dX0_nextBackward_78 : decode cX0_nextBackward 78 = .ok (.invokevirtual 47, 3) := by decide +kernel
theorem dX0_nextBackward_81 : decode cX0_nextBackward 81 = .ok (.areturn, 1) := by decide +kernel
set_option maxRecDepth 20000 in
theorem ggX0_moveTo_X2_place : GoodIn wsX0_moveTo wsX2_place := goodIn_r _ [10, 11, 12, 13, 14, 15, 16, 17, 18, 19, 20, 21, 22, 9, 23, 24, 25, 34, 35, 36, 37] (by decide +kernel) (by decide +kernel)
set_option maxRecDepth 20000 in
theorem gX0_moveTo_X2_place : GoodIn wsX0_moveTo (wsV RX0 66 RX2 yX2_place wsX2_place) := goodIn_app (goodIn_of _ (by decide +kernel)) ggX0_moveTo_X2_place
theorem dX0_moveTo_0 : decode cX0_moveTo 0 = .ok (.aload_n 1, 1) := by decide +kernel
theorem dX0_moveTo_1 : decode cX0_moveTo 1 = .ok (.ifnonnull 11, 3) := by decide +kernel
theorem dX0_moveTo_4 : decode cX0_moveTo 4 = .ok (.aload_n 0, 1) := by decide +kernel
theorem dX0_moveTo_5 : decode cX0_moveTo 5 = .ok (.iconst 2, 1) := by decide +kernel
theorem dX0_moveTo_6 : decode cX0_moveTo 6 = .ok (.putfield 11, 3) := by decide +kernel
theorem dX0_moveTo_9 : decode cX0_moveTo 9 = .ok (.goto 28, 3) := by decide +kernel
theorem dX0_moveTo_12 : decode cX0_moveTo 12 = .ok (.aload_n 0, 1) := by decide +kernel
theorem dX0_moveTo_13 : decode cX0_moveTo 13 = .ok (.iconst 1, 1) := by decide +kernel
theorem dX0_moveTo_14 : decode cX0_moveTo 14 = .ok (.putfield 11, 3) := by decide +kernel
theorem dX0_moveTo_17 : decode cX0_moveTo 17 = .ok (.aload_n 0, 1) := by decide +kernel
theorem dX0_moveTo_18 : decode cX0_moveTo 18 = .ok (.aload_n 1, 1) := by decide +kernel
theorem dX0_moveTo_19 : decode cX0_moveTo 19 = .ok (.getfield 69, 3) := by decide +kernel
theorem dX0_moveTo_22 : decode cX0_moveTo 22 = .ok (.putfield 15, 3) := by decide +kernel
theorem dX0_moveTo_25 : decode cX0_moveTo 25 = .ok (.aload_n 0, 1) := by decide +kernel
theorem dX0_moveTo_26 : decode cX0_moveTo 26 = .ok (.aload_n 1, 1) := by decide +kernel
theorem dX0_moveTo_27 : decode cX0_moveTo 27 = .ok (.aload_n 0, 1) := by decide +kernel
theorem dX0_moveTo_28 : decode cX0_moveTo 28 = .ok (.getfield 30, 3) := by decide +kernel
theorem dX0_moveTo_31 : decode cX0_moveTo 31 = .ok (.invokevirtual 66, 3) := by decide +kernel
theorem dX0_moveTo_34 : decode cX0_moveTo 34 = .ok (.putfield 18, 3) := by decide +kernel
theorem dX0_moveTo_37 : decode cX0_moveTo 37 = .ok (.return_, 1) := by decide +kernel
set_option maxRecDepth 20000 in
theorem ggX1_isKey_X1_isText : GoodIn wsX1_isKey wsX1_isText := goodIn_r _ [6, 7, 8, 5, 9] (by decide +kernel) (by decide +kernel)
set_option maxRecDepth 20000 in
theorem gX1_isKey_X1_isText : GoodIn wsX1_isKey (va_wsS RX1 13 yX1_isText wsX1_isText) := goodIn_app (goodIn_of _ (by decide +kernel)) ggX1_isKey_X1_isText
theorem dX1_isKey_0 : decode cX1_isKey 0 = .ok (.iload_n 0, 1) := by decide +kernel
theorem dX1_isKey_1 : decode cX1_isKey 1 = .ok (.ifCond .lt 9, 3) := by decide +kernel
theorem dX1_isKey_4 : decode cX1_isKey 4 = .ok (.iload_n 0, 1) := by decide +kernel
theorem dX1_isKey_5 : decode cX1_isKey 5 = .ok (.ldc 11, 2) := by decide +kernel
theorem dX1_isKey_7 : decode cX1_isKey 7 = .ok (.if_icmp .lt 5, 3) := by decide +kernel
theorem dX1_isKey_10 : decode cX1_isKey 10 = .ok (.iconst 0, 1) := by decide +kernel
theorem dX1_isKey_11 : decode cX1_isKey 11 = .ok (.ireturn, 1) := by decide +kernel
theorem dX1_isKey_12 : decode cX1_isKey 12 = .ok (.iload_n 0, 1) := by decide +kernel
theorem dX1_isKey_13 : decode cX1_isKey 13 = .ok (.ldc 12, 2) := by decide +kernel
theorem dX1_isKey_15 : decode cX1_isKey 15 = .ok (.idiv, 1) := by decide +kernel
theorem dX1_isKey_16 : decode cX1_isKey 16 = .ok (.istore_n 1, 1) := by decide +kernel
theorem dX1_isKey_17 : decode cX1_isKey 17 = .ok (.iload_n 0, 1) := by decide +kernel
theorem dX1_isKey_18 : decode cX1_isKey 18 = .ok (.ldc 12, 2) := by decide +kernel
theorem dX1_isKey_20 : decode cX1_isKey 20 = .ok (.irem, 1) := by decide +kernel
theorem dX1_isKey_21 : decode cX1_isKey 21 = .ok (.istore_n 2, 1) := by decide +kernel
theorem dX1_isKey_22 : decode cX1_isKey 22 = .ok (.iload_n 1, 1) := by decide +kernel
theorem dX1_isKey_23 : decode cX1_isKey 23 = .ok (.iconst 2, 1) := by decide +kernel
theorem dX1_isKey_24 : decode cX1_isKey 24 = .ok (.if_icmp .ne 8, 3) := by decide +kernel
theorem dX1_isKey_27 : decode cX1_isKey 27 = .ok (.iload_n 2, 1) := by decide +kernel
theorem dX1_isKey_28 : decode cX1_isKey 28 = .ok (.invokestatic 13, 3) := by decide +kernel
theorem dX1_isKey_31 : decode cX1_isKey 31 = .ok (.ireturn, 1) := by decide +kernel
theorem dX1_isKey_32 : decode cX1_isKey 32 = .ok (.iload_n 1, 1) := by decide +kernel
theorem dX1_isKey_33 : decode cX1_isKey 33 = .ok (.iconst 3, 1) := by decide +kernel
theorem dX1_isKey_34 : decode cX1_isKey 34 = .ok (.if_icmp .eq 10, 3) := by decide +kernel
theorem dX1_isKey_37 : decode cX1_isKey 37 = .ok (.iload_n 2, 1) := by decide +kernel
theorem dX1_isKey_38 : decode cX1_isKey 38 = .ok (.sipush 999, 3) := by decide +kernel
theorem dX1_isKey_41 : decode cX1_isKey 41 = .ok (.if_icmp .gt 7, 3) := by decide +kernel
theorem dX1_isKey_44 : decode cX1_isKey 44 = .ok (.iconst 1, 1) := by decide +kernel
theorem dX1_isKey_45 : decode cX1_isKey 45 = .ok (.goto 4, 3) := by decide +kernel
theorem dX1_isKey_48 : decode cX1_isKey 48 = .ok (.iconst 0, 1) := by decide +kernel
theorem dX1_isKey_49 : decode cX1_isKey 49 = .ok (.ireturn, 1) := by decide +kernel
set_option maxRecDepth 20000 in
theorem ggX1_isText_X1_isLetter : GoodIn wsX1_isText wsX1_isLetter := goodIn_r _ [4] (by decide +kernel) (by decide +kernel)
set_option maxRecDepth 20000 in
theorem gX1_isText_X1_isLetter : GoodIn wsX1_isText (va_wsS RX1 17 yX1_isLetter wsX1_isLetter) := goodIn_app (goodIn_of _ (by decide +kernel)) ggX1_isText_X1_isLetter
theorem dX1_isText_0 : decode cX1_isText 0 = .ok (.iload_n 0, 1) := by decide +kernel
theorem dX1_isText_1 : decode cX1_isText 1 = .ok (.bipush 100, 2) := by decide +kernel
theorem dX1_isText_3 : decode cX1_isText 3 = .ok (.irem, 1) := by decide +kernel
theorem dX1_isText_4 : decode cX1_isText 4 = .ok (.istore_n 1, 1) := by decide +kernel
theorem dX1_isText_5 : decode cX1_isText 5 = .ok (.iload_n 0, 1) := by decide +kernel
theorem dX1_isText_6 : decode cX1_isText 6 = .ok (.bipush 100, 2) := by decide +kernel
theorem dX1_isText_8 : decode cX1_isText 8 = .ok (.idiv, 1) := by decide +kernel
theorem dX1_isText_9 : decode cX1_isText 9 = .ok (.bipush 100, 2) := by decide +kernel
theorem dX1_isText_11 : decode cX1_isText 11 = .ok (.irem, 1) := by decide +kernel
theorem dX1_isText_12 : decode cX1_isText 12 = .ok (.istore_n 2, 1) := by decide +kernel
theorem dX1_isText_13 : decode cX1_isText 13 = .ok (.iload_n 0, 1) := by decide +kernel
theorem dX1_isText_14 : decode cX1_isText 14 = .ok (.bipush 100, 2) := by decide +kernel
theorem dX1_isText_16 : decode cX1_isText 16 = .ok (.idiv, 1) := by decide +kernel
theorem dX1_isText_17 : decode cX1_isText 17 = .ok (.bipush 100, 2) := by decide +kernel
theorem dX1_isText_19 : decode cX1_isText 19 = .ok (.idiv, 1) := by decide +kernel
theorem dX1_isText_20 : decode cX1_isText 20 = .ok (.istore_n 3, 1) := by decide +kernel
theorem dX1_isText_21 : decode cX1_isText 21 = .ok (.iload_n 2, 1) := by decide +kernel
theorem dX1_isText_22 : decode cX1_isText 22 = .ok (.ifCond .ne 11, 3) := by decide +kernel
theorem dX1_isText_25 : decode cX1_isText 25 = .ok (.iload_n 3, 1) := by decide +kernel
theorem dX1_isText_26 : decode cX1_isText 26 = .ok (.ifCond .ne 7, 3) := by decide +kernel
theorem dX1_isText_29 : decode cX1_isText 29 = .ok (.iconst 1, 1) := by decide +kernel
theorem dX1_isText_30 : decode cX1_isText 30 = .ok (.goto 4, 3) := by decide +kernel
theorem dX1_isText_33 : decode cX1_isText 33 = .ok (.iconst 0, 1) := by decide +kernel
theorem dX1_isText_34 : decode cX1_isText 34 = .ok (.istore 4, 2) := by decide +kernel
theorem dX1_isText_36 : decode cX1_isText 36 = .ok (.iload_n 1, 1) := by decide +kernel
theorem dX1_isText_37 : decode cX1_isText 37 = .ok (.invokestatic 17, 3) := by decide +kernel
theorem dX1_isText_40 : decode cX1_isText 40 = .ok (.ifCond .eq 30, 3) := by decide +kernel
theorem dX1_isText_43 : decode cX1_isText 43 = .ok (.iload_n 2, 1) := by decide +kernel
theorem dX1_isText_44 : decode cX1_isText 44 = .ok (.invokestatic 17, 3) := by decide +kernel
theorem dX1_isText_47 : decode cX1_isText 47 = .ok (.ifCond .ne 8, 3) := by decide +kernel
theorem dX1_isText_50 : decode cX1_isText 50 = .ok (.iload 4, 2) := by decide +kernel
theorem dX1_isText_52 : decode cX1_isText 52 = .ok (.ifCond .eq 18, 3) := by decide +kernel
theorem dX1_isText_55 : decode cX1_isText 55 = .ok (.iload_n 3, 1) := by decide +kernel
theorem dX1_isText_56 : decode cX1_isText 56 = .ok (.invokestatic 17, 3) := by decide +kernel
theorem dX1_isText_59 : decode cX1_isText 59 = .ok (.ifCond .ne 7, 3) := by decide +kernel
theorem dX1_isText_62 : decode cX1_isText 62 = .ok (.iload_n 3, 1) := by decide +kernel
theorem dX1_isText_63 : decode cX1_isText 63 = .ok (.ifCond .ne 7, 3) := by decide +kernel
theorem dX1_isText_66 : decode cX1_isText 66 = .ok (.iconst 1, 1) := by decide +kernel
theorem dX1_isText_67 : decode cX1_isText 67 = .ok (.goto 4, 3) := by decide +kernel
theorem dX1_isText_70 : decode cX1_isText 70 = .ok (.iconst 0, 1) := by decide +kernel
theorem dX1_isText_71 : decode cX1_isText 71 = .ok (.ireturn, 1) := by decide +kernel
theorem dX1_isLetter_0 : decode cX1_isLetter 0 = .ok (.iload_n 0, 1) := by decide +kernel
theorem dX1_isLetter_1 : decode cX1_isLetter 1 = .ok (.iconst 1, 1) := by decide +kernel
theorem dX1_isLetter_2 : decode cX1_isLetter 2 = .ok (.if_icmp .lt 13, 3) := by decide +kernel
theorem dX1_isLetter_5 : decode cX1_isLetter 5 = .ok (.iload_n 0, 1) := by decide +kernel
theorem dX1_isLetter_6 : decode cX1_isLetter 6 = .ok (.bipush 26, 2) := by decide +kernel
theorem dX1_isLetter_8 : decode cX1_isLetter 8 = .ok (.if_icmp .gt 7, 3) := by decide +kernel
theorem dX1_isLetter_11 : decode cX1_isLetter 11 = .ok (.iconst 1, 1) := by decide +kernel
theorem dX1_isLetter_12 : decode cX1_isLetter 12 = .ok (.goto 4, 3) := by decide +kernel
theorem dX1_isLetter_15 : decode cX1_isLetter 15 = .ok (.iconst 0, 1) := by decide +kernel
theorem dX1_isLetter_16 : decode cX1_isLetter 16 = .ok (.ireturn, 1) := by decide +kernel
theorem dX1_rank_0 : decode cX1_rank 0 = .ok (.iload_n 0, 1) := by decide +kernel
theorem dX1_rank_1 : decode cX1_rank 1 = .ok (.ldc 12, 2) := by decide +kernel
theorem dX1_rank_3 : decode cX1_rank 3 = .ok (.irem, 1) := by decide +kernel
theorem dX1_rank_4 : decode cX1_rank 4 = .ok (.istore_n 1, 1) := by decide +kernel
theorem dX1_rank_5 : decode cX1_rank 5 = .ok (.iload_n 0, 1) := by decide +kernel
theorem dX1_rank_6 : decode cX1_rank 6 = .ok (.ldc 12, 2) := by decide +kernel
theorem dX1_rank_8 : decode cX1_rank 8 = .ok (.idiv, 1) := by decide +kernel
theorem dX1_rank_9 : decode cX1_rank 9 = .ok (.iconst 2, 1) := by decide +kernel
theorem dX1_rank_10 : decode cX1_rank 10 = .ok (.if_icmp .eq 5, 3) := by decide +kernel
theorem dX1_rank_13 : decode cX1_rank 13 = .ok (.iload_n 0, 1) := by decide +kernel
theorem dX1_rank_14 : decode cX1_rank 14 = .ok (.ireturn, 1) := by decide +kernel
theorem dX1_rank_15 : decode cX1_rank 15 = .ok (.iload_n 1, 1) := by decide +kernel
theorem dX1_rank_16 : decode cX1_rank 16 = .ok (.bipush 100, 2) := by decide +kernel
theorem dX1_rank_18 : decode cX1_rank 18 = .ok (.if_icmp .ge 8, 3) := by decide +kernel
theorem dX1_rank_21 : decode cX1_rank 21 = .ok (.iload_n 1, 1) := by decide +kernel
theorem dX1_rank_22 : decode cX1_rank 22 = .ok (.bipush 100, 2) := by decide +kernel
theorem dX1_rank_24 : decode cX1_rank 24 = .ok (.imul, 1) := by decide +kernel
theorem dX1_rank_25 : decode cX1_rank 25 = .ok (.istore_n 1, 1) := by decide +kernel
theorem dX1_rank_26 : decode cX1_rank 26 = .ok (.iload_n 1, 1) := by decide +kernel
theorem dX1_rank_27 : decode cX1_rank 27 = .ok (.sipush 10000, 3) := by decide +kernel
theorem dX1_rank_30 : decode cX1_rank 30 = .ok (.if_icmp .ge 8, 3) := by decide +kernel
theorem dX1_rank_33 : decode cX1_rank 33 = .ok (.iload_n 1, 1) := by decide +kernel
theorem dX1_rank_34 : decode cX1_rank 34 = .ok (.bipush 100, 2) := by decide +kernel
theorem dX1_rank_36 : decode cX1_rank 36 = .ok (.imul, 1) := by decide +kernel
theorem dX1_rank_37 : decode cX1_rank 37 = .ok (.istore_n 1, 1) := by decide +kernel
theorem dX1_rank_38 : decode cX1_rank 38 = .ok (.ldc 20, 2) := by decide +kernel
theorem dX1_rank_40 : decode cX1_rank 40 = .ok (.iload_n 1, 1) := by decide +kernel
theorem dX1_rank_41 : decode cX1_rank 41 = .ok (.iadd, 1) := by decide +kernel
theorem dX1_rank_42 : decode cX1_rank 42 = .ok (.ireturn, 1) := by decide +kernel
theorem dX2_init_0 : decode cX2_init 0 = .ok (.aload_n 0, 1) := by decide +kernel
theorem dX2_init_1 : decode cX2_init 1 = .ok (.invokespecial 7, 3) := by decide +kernel
theorem dX2_init_4 : decode cX2_init 4 = .ok (.aload_n 0, 1) := by decide +kernel
theorem dX2_init_5 : decode cX2_init 5 = .ok (.iload_n 1, 1) := by decide +kernel
theorem dX2_init_6 : decode cX2_init 6 = .ok (.putfield 13, 3) := by decide +kernel
theorem dX2_init_9 : decode cX2_init 9 = .ok (.aload_n 0, 1) := by decide +kernel
theorem dX2_init_10 : decode cX2_init 10 = .ok (.iload_n 2, 1) := by decide +kernel
theorem dX2_init_11 : decode cX2_init 11 = .ok (.putfield 17, 3) := by decide +kernel
theorem dX2_init_14 : decode cX2_init 14 = .ok (.aload_n 0, 1) := by decide +kernel
theorem dX2_init_15 : decode cX2_init 15 = .ok (.iload_n 3, 1) := by decide +kernel
theorem dX2_init_16 : decode cX2_init 16 = .ok (.putfield 20, 3) := by decide +kernel
theorem dX2_init_19 : decode cX2_init 19 = .ok (.aload_n 0, 1) := by decide +kernel
theorem dX2_init_20 : decode cX2_init 20 = .ok (.iload 4, 2) := by decide +kernel
theorem dX2_init_22 : decode cX2_init 22 = .ok (.putfield 23, 3) := by decide +kernel
theorem dX2_init_25 : decode cX2_init 25 = .ok (.return_, 1) := by decide +kernel
theorem dX2_number_0 : decode cX2_number 0 = .ok (.iload_n 1, 1) := by decide +kernel
theorem dX2_number_1 : decode cX2_number 1 = .ok (.ifCond .ne 10, 3) := by decide +kernel
theorem dX2_number_4 : decode cX2_number 4 = .ok (.aload_n 0, 1) := by decide +kernel
theorem dX2_number_5 : decode cX2_number 5 = .ok (.getfield 20, 3) := by decide +kernel
theorem dX2_number_8 : decode cX2_number 8 = .ok (.goto 7, 3) := by decide +kernel
theorem dX2_number_11 : decode cX2_number 11 = .ok (.aload_n 0, 1) := by decide +kernel
theorem dX2_number_12 : decode cX2_number 12 = .ok (.getfield 23, 3) := by decide +kernel
theorem dX2_number_15 : decode cX2_number 15 = .ok (.ireturn, 1) := by decide +kernel
set_option maxRecDepth 20000 in
theorem ggX2_isBetween_X1_rank : GoodIn wsX2_isBetween wsX1_rank := goodIn_r _ [5, 6, 7] (by decide +kernel) (by decide +kernel)
set_option maxRecDepth 20000 in
theorem gX2_isBetween_X1_rank : GoodIn wsX2_isBetween (va_wsS RX2 26 yX1_rank wsX1_rank) := goodIn_app (goodIn_of _ (by decide +kernel)) ggX2_isBetween_X1_rank
theorem dX2_isBetween_0 : decode cX2_isBetween 0 = .ok (.aload_n 0, 1) := by decide +kernel
theorem dX2_isBetween_1 : decode cX2_isBetween 1 = .ok (.getfield 13, 3) := by decide +kernel
theorem dX2_isBetween_4 : decode cX2_isBetween 4 = .ok (.invokestatic 26, 3) := by decide +kernel
theorem dX2_isBetween_7 : decode cX2_isBetween 7 = .ok (.istore_n 3, 1) := by decide +kernel
theorem dX2_isBetween_8 : decode cX2_isBetween 8 = .ok (.iload_n 3, 1) := by decide +kernel
theorem dX2_isBetween_9 : decode cX2_isBetween 9 = .ok (.iload_n 1, 1) := by decide +kernel
theorem dX2_isBetween_10 : decode cX2_isBetween 10 = .ok (.invokestatic 26, 3) := by decide +kernel
theorem dX2_isBetween_13 : decode cX2_isBetween 13 = .ok (.if_icmp .lt 15, 3) := by decide +kernel
theorem dX2_isBetween_16 : decode cX2_isBetween 16 = .ok (.iload_n 3, 1) := by decide +kernel
theorem dX2_isBetween_17 : decode cX2_isBetween 17 = .ok (.iload_n 2, 1) := by decide +kernel
theorem dX2_isBetween_18 : decode cX2_isBetween 18 = .ok (.invokestatic 26, 3) := by decide +kernel
theorem dX2_isBetween_21 : decode cX2_isBetween 21 = .ok (.if_icmp .gt 7, 3) := by decide +kernel
theorem dX2_isBetween_24 : decode cX2_isBetween 24 = .ok (.iconst 1, 1) := by decide +kernel
theorem dX2_isBetween_25 : decode cX2_isBetween 25 = .ok (.goto 4, 3) := by decide +kernel
theorem dX2_isBetween_28 : decode cX2_isBetween 28 = .ok (.iconst 0, 1) := by decide +kernel
theorem dX2_isBetween_29 : decode cX2_isBetween 29 = .ok (.ireturn, 1) := by decide +kernel
set_option maxRecDepth 20000 in
theorem ggX2_place_X1_rank : GoodIn wsX2_place wsX1_rank := goodIn_r _ [7, 8, 9] (by decide +kernel) (by decide +kernel)
set_option maxRecDepth 20000 in
theorem gX2_place_X1_rank : GoodIn wsX2_place (va_wsS RX2 26 yX1_rank wsX1_rank) := goodIn_app (goodIn_of _ (by decide +kernel)) ggX2_place_X1_rank
set_option maxRecDepth 20000 in
theorem ggX2_place_X2_number : GoodIn wsX2_place wsX2_number := goodIn_r _ [14, 15, 16, 17, 18, 19, 20] (by decide +kernel) (by decide +kernel)
set_option maxRecDepth 20000 in
theorem gX2_place_X2_number : GoodIn wsX2_place (wsV RX2 30 RX2 yX2_number wsX2_number) := goodIn_app (goodIn_of _ (by decide +kernel)) ggX2_place_X2_number
theorem dX2_place_0 : decode cX2_place 0 = .ok (.iload_n 1, 1) := by decide +kernel
theorem dX2_place_1 : decode cX2_place 1 = .ok (.iconst (-1), 1) := by decide +kernel
theorem dX2_place_2 : decode cX2_place 2 = .ok (.if_icmp .ne 12, 3) := by decide +kernel
theorem dX2_place_5 : decode cX2_place 5 = .ok (.aload_n 0, 1) := by decide +kernel
theorem dX2_place_6 : decode cX2_place 6 = .ok (.getfield 13, 3) := by decide +kernel
theorem dX2_place_9 : decode cX2_place 9 = .ok (.invokestatic 26, 3) := by decide +kernel
theorem dX2_place_12 : decode cX2_place 12 = .ok (.i2l, 1) := by decide +kernel
theorem dX2_place_13 : decode cX2_place 13 = .ok (.lreturn, 1) := by decide +kernel
theorem dX2_place_14 : decode cX2_place 14 = .ok (.aload_n 0, 1) := by decide +kernel
theorem dX2_place_15 : decode cX2_place 15 = .ok (.iload_n 1, 1) := by decide +kernel
theorem dX2_place_16 : decode cX2_place 16 = .ok (.invokevirtual 30, 3) := by decide +kernel
theorem dX2_place_19 : decode cX2_place 19 = .ok (.istore_n 2, 1) := by decide +kernel
theorem dX2_place_20 : decode cX2_place 20 = .ok (.iload_n 2, 1) := by decide +kernel
theorem dX2_place_21 : decode cX2_place 21 = .ok (.iconst (-1), 1) := by decide +kernel
theorem dX2_place_22 : decode cX2_place 22 = .ok (.if_icmp .ne 9, 3) := by decide +kernel
theorem dX2_place_25 : decode cX2_place 25 = .ok (.ldc2_w 33, 3) := by decide +kernel
theorem dX2_place_28 : decode cX2_place 28 = .ok (.goto 18, 3) := by decide +kernel
theorem dX2_place_31 : decode cX2_place 31 = .ok (.iload_n 2, 1) := by decide +kernel
theorem dX2_place_32 : decode cX2_place 32 = .ok (.i2l, 1) := by decide +kernel
theorem dX2_place_33 : decode cX2_place 33 = .ok (.ldc2_w 35, 3) := by decide +kernel
theorem dX2_place_36 : decode cX2_place 36 = .ok (.lmul, 1) := by decide +kernel
theorem dX2_place_37 : decode cX2_place 37 = .ok (.aload_n 0, 1) := by decide +kernel
theorem dX2_place_38 : decode cX2_place 38 = .ok (.getfield 13, 3) := by decide +kernel
theorem dX2_place_41 : decode cX2_place 41 = .ok (.invokestatic 26, 3) := by decide +kernel
theorem dX2_place_44 : decode cX2_place 44 = .ok (.i2l, 1) := by decide +kernel
theorem dX2_place_45 : decode cX2_place 45 = .ok (.ladd, 1) := by decide +kernel
theorem dX2_place_46 : decode cX2_place 46 = .ok (.lreturn, 1) := by decide +kernel
theorem dX2_startOfNumber_0 : decode cX2_startOfNumber 0 = .ok (.lload_n 0, 1) := by decide +kernel
theorem dX2_startOfNumber_1 : decode cX2_startOfNumber 1 = .ok (.lload_n 0, 1) := by decide +kernel
theorem dX2_startOfNumber_2 : decode cX2_startOfNumber 2 = .ok (.ldc2_w 35, 3) := by decide +kernel
theorem dX2_startOfNumber_5 : decode cX2_startOfNumber 5 = .ok (.lrem, 1) := by decide +kernel
theorem dX2_startOfNumber_6 : decode cX2_startOfNumber 6 = .ok (.lsub, 1) := by decide +kernel
theorem dX2_startOfNumber_7 : decode cX2_startOfNumber 7 = .ok (.lreturn, 1) := by decide +kernel
set_option maxRecDepth 20000 in
theorem ggX3_init_Jx4a65c_init_da8c8 : GoodIn wsX3_init wsJx4a65c_init_da8c8 := goodIn_r _ [13, 14, 15, 16, 17, 18, 19, 20, 21, 22, 23, 24, 25, 2, 3, 29, 30, 31] (by decide +kernel) (by decide +kernel)
set_option maxRecDepth 20000 in
theorem gX3_init_Jx4a65c_init_da8c8 : GoodIn wsX3_init (wsJx4a65c_init_da8c8) := ggX3_init_Jx4a65c_init_da8c8
theorem dX3_init_0 : decode cX3_init 0 = .ok (.aload_n 0, 1) := by decide +kernel
theorem dX3_init_1 : decode cX3_init 1 = .ok (.invokespecial 3, 3) := by decide +kernel
theorem dX3_init_4 : decode cX3_init 4 = .ok (.aload_n 0, 1) := by decide +kernel
theorem dX3_init_5 : decode cX3_init 5 = .ok (.iconst 0, 1) := by decide +kernel
theorem dX3_init_6 : decode cX3_init 6 = .ok (.putfield 9, 3) := by decide +kernel
theorem dX3_init_9 : decode cX3_init 9 = .ok (.aload_n 0, 1) := by decide +kernel
theorem dX3_init_10 : decode cX3_init 10 = .ok (.iconst 2, 1) := by decide +kernel
theorem dX3_init_11 : decode cX3_init 11 = .ok (.newarray .int, 2) := by decide +kernel
theorem dX3_init_13 : decode cX3_init 13 = .ok (.putfield 15, 3) := by decide +kernel
theorem dX3_init_16 : decode cX3_init 16 = .ok (.aload_n 0, 1) := by decide +kernel
theorem dX3_init_17 : decode cX3_init 17 = .ok (.new 19, 3) := by decide +kernel
theorem dX3_init_20 : decode cX3_init 20 = .ok (.dup, 1) := by decide +kernel
theorem dX3_init_21 : decode cX3_init 21 = .ok (.invokespecial 21, 3) := by decide +kernel
theorem dX3_init_24 : decode cX3_init 24 = .ok (.putfield 22, 3) := by decide +kernel
theorem dX3_init_27 : decode cX3_init 27 = .ok (.return_, 1) := by decide +kernel
set_option maxRecDepth 20000 in
theorem ggX3_size_Jx4a65c_size_8abf5 : GoodIn wsX3_size wsJx4a65c_size_8abf5 := goodIn_r _ [6, 7, 11, 12, 13] (by decide +kernel) (by decide +kernel)
set_option maxRecDepth 20000 in
theorem gX3_size_Jx4a65c_size_8abf5_f26Jx4a65c : GoodIn wsX3_size (va_wsF RX3 26 RJx4a65c ⟨"java/util/List", "size", "()I"⟩ yJx4a65c_size_8abf5 wsJx4a65c_size_8abf5) := goodIn_app (goodIn_of _ (by decide +kernel)) ggX3_size_Jx4a65c_size_8abf5
theorem dX3_size_0 : decode cX3_size 0 = .ok (.aload_n 0, 1) := by decide +kernel
theorem dX3_size_1 : decode cX3_size 1 = .ok (.getfield 22, 3) := by decide +kernel
theorem dX3_size_4 : decode cX3_size 4 = .ok (.invokeinterface 26 1, 5) := by decide +kernel
theorem dX3_size_9 : decode cX3_size 9 = .ok (.ireturn, 1) := by decide +kernel
set_option maxRecDepth 20000 in
theorem ggX3_wipe_Jx4a65c_clear_da8c8 : GoodIn wsX3_wipe wsJx4a65c_clear_da8c8 := goodIn_r _ [8, 9, 10, 11, 12, 16, 17, 18] (by decide +kernel) (by decide +kernel)
set_option maxRecDepth 20000 in
theorem gX3_wipe_Jx4a65c_clear_da8c8_f32Jx4a65c : GoodIn wsX3_wipe (va_wsF RX3 32 RJx4a65c ⟨"java/util/List", "clear", "()V"⟩ yJx4a65c_clear_da8c8 wsJx4a65c_clear_da8c8) := goodIn_app (goodIn_of _ (by decide +kernel)) ggX3_wipe_Jx4a65c_clear_da8c8
theorem dX3_wipe_0 : decode cX3_wipe 0 = .ok (.aload_n 0, 1) := by decide +kernel
theorem dX3_wipe_1 : decode cX3_wipe 1 = .ok (.iconst 0, 1) := by decide +kernel
theorem dX3_wipe_2 : decode cX3_wipe 2 = .ok (.putfield 9, 3) := by decide +kernel
theorem dX3_wipe_5 : decode cX3_wipe 5 = .ok (.aload_n 0, 1) := by decide +kernel
theorem dX3_wipe_6 : decode cX3_wipe 6 = .ok (.getfield 22, 3) := by decide +kernel
theorem dX3_wipe_9 : decode cX3_wipe 9 = .ok (.invokeinterface 32 1, 5) := by decide +kernel
theorem dX3_wipe_14 : decode cX3_wipe 14 = .ok (.iconst 0, 1) := by decide +kernel
theorem dX3_wipe_15 : decode cX3_wipe 15 = .ok (.istore_n 1, 1) := by decide +kernel
theorem dX3_wipe_16 : decode cX3_wipe 16 = .ok (.iload_n 1, 1) := by decide +kernel
theorem dX3_wipe_17 : decode cX3_wipe 17 = .ok (.aload_n 0, 1) := by decide +kernel
theorem dX3_wipe_18 : decode cX3_wipe 18 = .ok (.getfield 15, 3) := by decide +kernel
theorem dX3_wipe_21 : decode cX3_wipe 21 = .ok (.arraylength, 1) := by decide +kernel
theorem dX3_wipe_22 : decode cX3_wipe 22 = .ok (.if_icmp .ge 16, 3) := by decide +kernel
theorem dX3_wipe_25 : decode cX3_wipe 25 = .ok (.aload_n 0, 1) := by decide +kernel
theorem dX3_wipe_26 : decode cX3_wipe 26 = .ok (.getfield 15, 3) := by decide +kernel
theorem dX3_wipe_29 : decode cX3_wipe 29 = .ok (.iload_n 1, 1) := by decide +kernel
theorem dX3_wipe_30 : decode cX3_wipe 30 = .ok (.iconst 0, 1) := by decide +kernel
theorem dX3_wipe_31 : decode cX3_wipe 31 = .ok (.iastore, 1) := by decide +kernel
theorem dX3_wipe_32 : decode cX3_wipe 32 = .ok (.iinc 1 1, 3) := by decide +kernel
theorem dX3_wipe_35 : decode cX3_wipe 35 = .ok (.goto (-19), 3) := by decide +kernel
theorem dX3_wipe_38 : decode cX3_wipe 38 = .ok (.return_, 1) := by decide +kernel
set_option maxRecDepth 20000 in
theorem ggX3_takeOver_Jx4a65c_clear_da8c8 : GoodIn wsX3_takeOver wsJx4a65c_clear_da8c8 := goodIn_r _ [9, 10, 11, 12, 13, 88, 89, 90] (by decide +kernel) (by decide +kernel)
set_option maxRecDepth 20000 in
theorem gX3_takeOver_Jx4a65c_clear_da8c8_f32Jx4a65c : GoodIn wsX3_takeOver (va_wsF RX3 32 RJx4a65c ⟨"java/util/List", "clear", "()V"⟩ yJx4a65c_clear_da8c8 wsJx4a65c_clear_da8c8) := goodIn_app (goodIn_of _ (by decide +kernel)) ggX3_takeOver_Jx4a65c_clear_da8c8
set_option maxRecDepth 20000 in
theorem ggX3_takeOver_Jx4a65c_size_8abf5 : GoodIn wsX3_takeOver wsJx4a65c_size_8abf5 := goodIn_r _ [17, 13, 88, 89, 90] (by decide +kernel) (by decide +kernel)
set_option maxRecDepth 20000 in
theorem gX3_takeOver_Jx4a65c_size_8abf5_f26Jx4a65c : GoodIn wsX3_takeOver (va_wsF RX3 26 RJx4a65c ⟨"java/util/List", "size", "()I"⟩ yJx4a65c_size_8abf5 wsJx4a65c_size_8abf5) := goodIn_app (goodIn_of _ (by decide +kernel)) ggX3_takeOver_Jx4a65c_size_8abf5
set_option maxRecDepth 20000 in
theorem ggX3_takeOver_Jx4a65c_get_915e3 : GoodIn wsX3_takeOver wsJx4a65c_get_915e3 := goodIn_r _ [21, 13, 22, 23, 24, 25, 26, 27, 28, 29, 30, 31, 32, 8, 33, 12, 88, 89, 90] (by decide +kernel) (by decide +kernel)
set_option maxRecDepth 20000 in
theorem gX3_takeOver_Jx4a65c_get_915e3_f35Jx4a65c : GoodIn wsX3_takeOver (va_wsF RX3 35 RJx4a65c ⟨"java/util/List", "get", "(I)Ljava/lang/Object;"⟩ yJx4a65c_get_915e3 wsJx4a65c_get_915e3) := goodIn_app (goodIn_of _ (by decide +kernel)) ggX3_takeOver_Jx4a65c_get_915e3
set_option maxRecDepth 20000 in
theorem ggX3_takeOver_Jx4a65c_add_9ea2d : GoodIn wsX3_takeOver wsJx4a65c_add_9ea2d := goodIn_r _ [37, 10, 11, 12, 13, 38, 39, 40, 8, 41, 42, 43, 44, 45, 46, 47, 48, 49, 50, 51, 52, 53, 54, 55, 56, 57, 58, 59, 60, 61, 62, 63, 64, 65, 66, 67, 68, 69, 70, 71, 72, 73, 74, 75, 76, 77, 78, 79, 80, 81, 82, 83, 84, 88, 89, 90] (by decide +kernel) (by decide +kernel)
set_option maxRecDepth 20000 in
theorem gX3_takeOver_Jx4a65c_add_9ea2d_f41Jx4a65c : GoodIn wsX3_takeOver (va_wsF RX3 41 RJx4a65c ⟨"java/util/List", "add", "(Ljava/lang/Object;)Z"⟩ yJx4a65c_add_9ea2d wsJx4a65c_add_9ea2d) := goodIn_app (goodIn_of _ (by decide +kernel)) ggX3_takeOver_Jx4a65c_add_9ea2d
theorem dX3_takeOver_0 : decode cX3_takeOver 0 = .ok (.aload_n 0, 1) := by decide +kernel
theorem dX3_takeOver_1 : decode cX3_takeOver 1 = .ok (.aload_n 1, 1) := by decide +kernel
theorem dX3_takeOver_2 : decode cX3_takeOver 2 = .ok (.getfield 9, 3) := by decide +kernel
theorem dX3_takeOver_5 : decode cX3_takeOver 5 = .ok (.putfield 9, 3) := by decide +kernel
theorem dX3_takeOver_8 : decode cX3_takeOver 8 = .ok (.iconst 0, 1) := by decide +kernel
theorem dX3_takeOver_9 : decode cX3_takeOver 9 = .ok (.istore_n 2, 1) := by decide +kernel
theorem dX3_takeOver_10 : decode cX3_takeOver 10 = .ok (.iload_n 2, 1) := by decide +kernel
theorem dX3_takeOver_11 : decode cX3_takeOver 11 = .ok (.aload_n 0, 1) := by decide +kernel
theorem dX3_takeOver_12 : decode cX3_takeOver 12 = .ok (.getfield 15, 3) := by decide +kernel
theorem dX3_takeOver_15 : decode cX3_takeOver 15 = .ok (.arraylength, 1) := by decide +kernel
theorem dX3_takeOver_16 : decode cX3_takeOver 16 = .ok (.if_icmp .ge 30, 3) := by decide +kernel
theorem dX3_takeOver_19 : decode cX3_takeOver 19 = .ok (.iload_n 2, 1) := by decide +kernel
theorem dX3_takeOver_20 : decode cX3_takeOver 20 = .ok (.aload_n 1, 1) := by decide +kernel
theorem dX3_takeOver_21 : decode cX3_takeOver 21 = .ok (.getfield 15, 3) := by decide +kernel
theorem dX3_takeOver_24 : decode cX3_takeOver 24 = .ok (.arraylength, 1) := by decide +kernel
theorem dX3_takeOver_25 : decode cX3_takeOver 25 = .ok (.if_icmp .ge 21, 3) := by decide +kernel
theorem dX3_takeOver_28 : decode cX3_takeOver 28 = .ok (.aload_n 0, 1) := by decide +kernel
theorem dX3_takeOver_29 : decode cX3_takeOver 29 = .ok (.getfield 15, 3) := by decide +kernel
theorem dX3_takeOver_32 : decode cX3_takeOver 32 = .ok (.iload_n 2, 1) := by decide +kernel
theorem dX3_takeOver_33 : decode cX3_takeOver 33 = .ok (.aload_n 1, 1) := by decide +kernel
theorem dX3_takeOver_34 : decode cX3_takeOver 34 = .ok (.getfield 15, 3) := by decide +kernel
theorem dX3_takeOver_37 : decode cX3_takeOver 37 = .ok (.iload_n 2, 1) := by decide +kernel
theorem dX3_takeOver_38 : decode cX3_takeOver 38 = .ok (.iaload, 1) := by decide +kernel
theorem dX3_takeOver_39 : decode cX3_takeOver 39 = .ok (.iastore, 1) := by decide +kernel
theorem dX3_takeOver_40 : decode cX3_takeOver 40 = .ok (.iinc 2 1, 3) := by decide +kernel
theorem dX3_takeOver_43 : decode cX3_takeOver 43 = .ok (.goto (-33), 3) := by decide +kernel
theorem dX3_takeOver_46 : decode cX3_takeOver 46 = .ok (.aload_n 0, 1) := by decide +kernel
theorem dX3_takeOver_47 : decode cX3_takeOver 47 = .ok (.getfield 22, 3) := by decide +kernel
theorem dX3_takeOver_50 : decode cX3_takeOver 50 = .ok (.invokeinterface 32 1, 5) := by decide +kernel
theorem dX3_takeOver_55 : decode cX3_takeOver 55 = .ok (.iconst 0, 1) := by decide +kernel
theorem dX3_takeOver_56 : decode cX3_takeOver 56 = .ok (.istore_n 2, 1) := by decide +kernel
theorem dX3_takeOver_57 : decode cX3_takeOver 57 = .ok (.iload_n 2, 1) := by decide +kernel
theorem dX3_takeOver_58 : decode cX3_takeOver 58 = .ok (.aload_n 1, 1) := by decide +kernel
theorem dX3_takeOver_59 : decode cX3_takeOver 59 = .ok (.getfield 22, 3) := by decide +kernel
theorem dX3_takeOver_62 : decode cX3_takeOver 62 = .ok (.invokeinterface 26 1, 5) := by decide +kernel
theorem dX3_takeOver_67 : decode cX3_takeOver 67 = .ok (.if_icmp .ge 32, 3) := by decide +kernel
theorem dX3_takeOver_70 : decode cX3_takeOver 70 = .ok (.aload_n 0, 1) := by decide +kernel
theorem dX3_takeOver_71 : decode cX3_takeOver 71 = .ok (.getfield 22, 3) := by decide +kernel
theorem dX3_takeOver_74 : decode cX3_takeOver 74 = .ok (.aload_n 1, 1) := by decide +kernel
theorem dX3_takeOver_75 : decode cX3_takeOver 75 = .ok (.getfield 22, 3) := by decide +kernel
theorem dX3_takeOver_78 : decode cX3_takeOver 78 = .ok (.iload_n 2, 1) := by decide +kernel
theorem dX3_takeOver_79 : decode cX3_takeOver 79 = .ok (.invokeinterface 35 2, 5) := by decide +kernel
theorem dX3_takeOver_84 : decode cX3_takeOver 84 = .ok (.checkcast 39, 3) := by decide +kernel
theorem dX3_takeOver_87 : decode cX3_takeOver 87 = .ok (.invokeinterface 41 2, 5) := by decide +kernel
theorem dX3_takeOver_92 : decode cX3_takeOver 92 = .ok (.pop, 1) := by decide +kernel
theorem dX3_takeOver_93 : decode cX3_takeOver 93 = .ok (.iinc 2 1, 3) := by decide +kernel
theorem dX3_takeOver_96 : decode cX3_takeOver 96 = .ok (.goto (-39), 3) := by decide +kernel
theorem dX3_takeOver_99 : decode cX3_takeOver 99 = .ok (.return_, 1) := by decide +kernel
theorem dX3_hasIndex_0 : decode cX3_hasIndex 0 = .ok (.iload_n 1, 1) := by decide +kernel
theorem dX3_hasIndex_1 : decode cX3_hasIndex 1 = .ok (.ifCond .lt 25, 3) := by decide +kernel
theorem dX3_hasIndex_4 : decode cX3_hasIndex 4 = .ok (.iload_n 1, 1) := by decide +kernel
theorem dX3_hasIndex_5 : decode cX3_hasIndex 5 = .ok (.aload_n 0, 1) := by decide +kernel
theorem dX3_hasIndex_6 : decode cX3_hasIndex 6 = .ok (.getfield 15, 3) := by decide +kernel
theorem dX3_hasIndex_9 : decode cX3_hasIndex 9 = .ok (.arraylength, 1) := by decide +kernel
theorem dX3_hasIndex_10 : decode cX3_hasIndex 10 = .ok (.if_icmp .ge 16, 3) := by decide +kernel
theorem dX3_hasIndex_13 : decode cX3_hasIndex 13 = .ok (.aload_n 0, 1) := by decide +kernel
theorem dX3_hasIndex_14 : decode cX3_hasIndex 14 = .ok (.getfield 15, 3) := by decide +kernel
theorem dX3_hasIndex_17 : decode cX3_hasIndex 17 = .ok (.iload_n 1, 1) := by decide +kernel
theorem dX3_hasIndex_18 : decode cX3_hasIndex 18 = .ok (.iaload, 1) := by decide +kernel
theorem dX3_hasIndex_19 : decode cX3_hasIndex 19 = .ok (.ifCond .eq 7, 3) := by decide +kernel
theorem dX3_hasIndex_22 : decode cX3_hasIndex 22 = .ok (.iconst 1, 1) := by decide +kernel
theorem dX3_hasIndex_23 : decode cX3_hasIndex 23 = .ok (.goto 4, 3) := by decide +kernel
theorem dX3_hasIndex_26 : decode cX3_hasIndex 26 = .ok (.iconst 0, 1) := by decide +kernel
theorem dX3_hasIndex_27 : decode cX3_hasIndex 27 = .ok (.ireturn, 1) := by decide +kernel
theorem dX3_addIndex_0 : decode cX3_addIndex 0 = .ok (.iload_n 1, 1) := by decide +kernel
theorem dX3_addIndex_1 : decode cX3_addIndex 1 = .ok (.ifCond .lt 27, 3) := by decide +kernel
theorem dX3_addIndex_4 : decode cX3_addIndex 4 = .ok (.iload_n 1, 1) := by decide +kernel
theorem dX3_addIndex_5 : decode cX3_addIndex 5 = .ok (.aload_n 0, 1) := by decide +kernel
theorem dX3_addIndex_6 : decode cX3_addIndex 6 = .ok (.getfield 15, 3) := by decide +kernel
theorem dX3_addIndex_9 : decode cX3_addIndex 9 = .ok (.arraylength, 1) := by decide +kernel
theorem dX3_addIndex_10 : decode cX3_addIndex 10 = .ok (.if_icmp .ge 18, 3) := by decide +kernel
theorem dX3_addIndex_13 : decode cX3_addIndex 13 = .ok (.aload_n 0, 1) := by decide +kernel
theorem dX3_addIndex_14 : decode cX3_addIndex 14 = .ok (.getfield 15, 3) := by decide +kernel
theorem dX3_addIndex_17 : decode cX3_addIndex 17 = .ok (.iload_n 1, 1) := by decide +kernel
theorem dX3_addIndex_18 : decode cX3_addIndex 18 = .ok (.iload_n 2, 1) := by decide +kernel
theorem dX3_addIndex_19 : decode cX3_addIndex 19 = .ok (.ifCond .eq 7, 3) := by decide +kernel
theorem dX3_addIndex_22 : decode cX3_addIndex 22 = .ok (.iconst 2, 1) := by decide +kernel
theorem dX3_addIndex_23 : decode cX3_addIndex 23 = .ok (.goto 4, 3) := by decide +kernel
theorem dX3_addIndex_26 : decode cX3_addIndex 26 = .ok (.iconst 1, 1) := by decide +kernel
theorem dX3_addIndex_27 : decode cX3_addIndex 27 = .ok (.iastore, 1) := by decide +kernel
theorem dX3_addIndex_28 : decode cX3_addIndex 28 = .ok (.return_, 1) := by decide +kernel
set_option maxRecDepth 20000 in
theorem ggX3_hasDoubles_Jx4a65c_size_8abf5 : GoodIn wsX3_hasDoubles wsJx4a65c_size_8abf5 := goodIn_r _ [7, 8, 42, 43, 44] (by decide +kernel) (by decide +kernel)
set_option maxRecDepth 20000 in
theorem gX3_hasDoubles_Jx4a65c_size_8abf5_f26Jx4a65c : GoodIn wsX3_hasDoubles (va_wsF RX3 26 RJx4a65c ⟨"java/util/List", "size", "()I"⟩ yJx4a65c_size_8abf5 wsJx4a65c_size_8abf5) := goodIn_app (goodIn_of _ (by decide +kernel)) ggX3_hasDoubles_Jx4a65c_size_8abf5
set_option maxRecDepth 20000 in
theorem ggX3_hasDoubles_Jx4a65c_get_915e3 : GoodIn wsX3_hasDoubles wsJx4a65c_get_915e3 := goodIn_r _ [12, 8, 13, 14, 15, 16, 17, 18, 19, 20, 21, 22, 23, 6, 24, 25, 42, 43, 44] (by decide +kernel) (by decide +kernel)
set_option maxRecDepth 20000 in
theorem gX3_hasDoubles_Jx4a65c_get_915e3_f35Jx4a65c : GoodIn wsX3_hasDoubles (va_wsF RX3 35 RJx4a65c ⟨"java/util/List", "get", "(I)Ljava/lang/Object;"⟩ yJx4a65c_get_915e3 wsJx4a65c_get_915e3) := goodIn_app (goodIn_of _ (by decide +kernel)) ggX3_hasDoubles_Jx4a65c_get_915e3
set_option maxRecDepth 20000 in
theorem ggX3_hasDoubles_X3_isTaken : GoodIn wsX3_hasDoubles wsX3_isTaken := goodIn_r _ [30, 1, 2, 31, 32, 33, 34, 35, 36, 37, 38, 3, 4, 5, 6, 7, 8, 9, 10, 11, 12, 13, 14, 15, 16, 17, 18, 19, 20, 21, 22, 23, 24, 25, 39, 40, 41, 45, 46, 47, 48, 42, 43, 44] (by decide +kernel) (by decide +kernel)
set_option maxRecDepth 20000 in
theorem gX3_hasDoubles_X3_isTaken : GoodIn wsX3_hasDoubles (wsV RX3 45 RX3 yX3_isTaken wsX3_isTaken) := goodIn_app (goodIn_of _ (by decide +kernel)) ggX3_hasDoubles_X3_isTaken
theorem dX3_hasDoubles_0 : decode cX3_hasDoubles 0 = .ok (.iconst 0, 1) := by decide +kernel
theorem dX3_hasDoubles_1 : decode cX3_hasDoubles 1 = .ok (.istore_n 2, 1) := by decide +kernel
theorem dX3_hasDoubles_2 : decode cX3_hasDoubles 2 = .ok (.iload_n 2, 1) := by decide +kernel
theorem dX3_hasDoubles_3 : decode cX3_hasDoubles 3 = .ok (.aload_n 0, 1) := by decide +kernel
theorem dX3_hasDoubles_4 : decode cX3_hasDoubles 4 = .ok (.getfield 22, 3) := by decide +kernel
theorem dX3_hasDoubles_7 : decode cX3_hasDoubles 7 = .ok (.invokeinterface 26 1, 5) := by decide +kernel
theorem dX3_hasDoubles_12 : decode cX3_hasDoubles 12 = .ok (.if_icmp .ge 32, 3) := by decide +kernel
theorem dX3_hasDoubles_15 : decode cX3_hasDoubles 15 = .ok (.aload_n 0, 1) := by decide +kernel
theorem dX3_hasDoubles_16 : decode cX3_hasDoubles 16 = .ok (.iload_n 1, 1) := by decide +kernel
theorem dX3_hasDoubles_17 : decode cX3_hasDoubles 17 = .ok (.aload_n 0, 1) := by decide +kernel
theorem dX3_hasDoubles_18 : decode cX3_hasDoubles 18 = .ok (.getfield 22, 3) := by decide +kernel
theorem dX3_hasDoubles_21 : decode cX3_hasDoubles 21 = .ok (.iload_n 2, 1) := by decide +kernel
theorem dX3_hasDoubles_22 : decode cX3_hasDoubles 22 = .ok (.invokeinterface 35 2, 5) := by decide +kernel
theorem dX3_hasDoubles_27 : decode cX3_hasDoubles 27 = .ok (.checkcast 39, 3) := by decide +kernel
theorem dX3_hasDoubles_30 : decode cX3_hasDoubles 30 = .ok (.invokevirtual 45, 3) := by decide +kernel
theorem dX3_hasDoubles_33 : decode cX3_hasDoubles 33 = .ok (.ifCond .eq 5, 3) := by decide +kernel
theorem dX3_hasDoubles_36 : decode cX3_hasDoubles 36 = .ok (.iconst 1, 1) := by decide +kernel
theorem dX3_hasDoubles_37 : decode cX3_hasDoubles 37 = .ok (.ireturn, 1) := by decide +kernel
theorem dX3_hasDoubles_38 : decode cX3_hasDoubles 38 = .ok (.iinc 2 1, 3) := by decide +kernel
theorem dX3_hasDoubles_41 : decode cX3_hasDoubles 41 = .ok (.goto (-39), 3) := by decide +kernel
theorem dX3_hasDoubles_44 : decode cX3_hasDoubles 44 = .ok (.iconst 0, 1) := by decide +kernel
theorem dX3_hasDoubles_45 : decode cX3_hasDoubles 45 = .ok (.ireturn, 1) := by decide +kernel
set_option maxRecDepth 20000 in
theorem ggX3_clashes_X3_isTaken : GoodIn wsX3_clashes wsX3_isTaken := goodIn_r _ [6, 7, 8, 9, 10, 11, 12, 13, 14, 15, 16, 17, 18, 19, 20, 21, 22, 23, 24, 25, 26, 27, 28, 29, 30, 31, 32, 33, 34, 35, 36, 37, 38, 39, 40, 41, 42, 43, 44, 45, 46, 47, 48, 49] (by decide +kernel) (by decide +kernel)
set_option maxRecDepth 20000 in
theorem gX3_clashes_X3_isTaken : GoodIn wsX3_clashes (wsV RX3 45 RX3 yX3_isTaken wsX3_isTaken) := goodIn_app (goodIn_of _ (by decide +kernel)) ggX3_clashes_X3_isTaken
theorem dX3_clashes_0 : decode cX3_clashes 0 = .ok (.iconst 0, 1) := by decide +kernel
theorem dX3_clashes_1 : decode cX3_clashes 1 = .ok (.istore_n 2, 1) := by decide +kernel
theorem dX3_clashes_2 : decode cX3_clashes 2 = .ok (.iload_n 2, 1) := by decide +kernel
theorem dX3_clashes_3 : decode cX3_clashes 3 = .ok (.aload_n 0, 1) := by decide +kernel
theorem dX3_clashes_4 : decode cX3_clashes 4 = .ok (.getfield 15, 3) := by decide +kernel
theorem dX3_clashes_7 : decode cX3_clashes 7 = .ok (.arraylength, 1) := by decide +kernel
theorem dX3_clashes_8 : decode cX3_clashes 8 = .ok (.if_icmp .ge 30, 3) := by decide +kernel
theorem dX3_clashes_11 : decode cX3_clashes 11 = .ok (.aload_n 0, 1) := by decide +kernel
theorem dX3_clashes_12 : decode cX3_clashes 12 = .ok (.getfield 15, 3) := by decide +kernel
theorem dX3_clashes_15 : decode cX3_clashes 15 = .ok (.iload_n 2, 1) := by decide +kernel
theorem dX3_clashes_16 : decode cX3_clashes 16 = .ok (.iaload, 1) := by decide +kernel
theorem dX3_clashes_17 : decode cX3_clashes 17 = .ok (.iconst 2, 1) := by decide +kernel
theorem dX3_clashes_18 : decode cX3_clashes 18 = .ok (.if_icmp .ne 14, 3) := by decide +kernel
theorem dX3_clashes_21 : decode cX3_clashes 21 = .ok (.aload_n 0, 1) := by decide +kernel
theorem dX3_clashes_22 : decode cX3_clashes 22 = .ok (.iload_n 2, 1) := by decide +kernel
theorem dX3_clashes_23 : decode cX3_clashes 23 = .ok (.aload_n 1, 1) := by decide +kernel
theorem dX3_clashes_24 : decode cX3_clashes 24 = .ok (.invokevirtual 45, 3) := by decide +kernel
theorem dX3_clashes_27 : decode cX3_clashes 27 = .ok (.ifCond .eq 5, 3) := by decide +kernel
theorem dX3_clashes_30 : decode cX3_clashes 30 = .ok (.iconst 1, 1) := by decide +kernel
theorem dX3_clashes_31 : decode cX3_clashes 31 = .ok (.ireturn, 1) := by decide +kernel
theorem dX3_clashes_32 : decode cX3_clashes 32 = .ok (.iinc 2 1, 3) := by decide +kernel
theorem dX3_clashes_35 : decode cX3_clashes 35 = .ok (.goto (-33), 3) := by decide +kernel
theorem dX3_clashes_38 : decode cX3_clashes 38 = .ok (.iconst 0, 1) := by decide +kernel
theorem dX3_clashes_39 : decode cX3_clashes 39 = .ok (.ireturn, 1) := by decide +kernel
set_option maxRecDepth 20000 in
theorem ggX3_isTaken_X2_number : GoodIn wsX3_isTaken wsX2_number := goodIn_r _ [8, 9, 10, 37, 38, 39, 40] (by decide +kernel) (by decide +kernel)
set_option maxRecDepth 20000 in
theorem gX3_isTaken_X2_number : GoodIn wsX3_isTaken (wsV RX3 49 RX2 yX2_number wsX2_number) := goodIn_app (goodIn_of _ (by decide +kernel)) ggX3_isTaken_X2_number
set_option maxRecDepth 20000 in
theorem ggX3_isTaken_Jx4a65c_size_8abf5 : GoodIn wsX3_isTaken wsJx4a65c_size_8abf5 := goodIn_r _ [15, 16, 41, 42, 43] (by decide +kernel) (by decide +kernel)
set_option maxRecDepth 20000 in
theorem gX3_isTaken_Jx4a65c_size_8abf5_f26Jx4a65c : GoodIn wsX3_isTaken (va_wsF RX3 26 RJx4a65c ⟨"java/util/List", "size", "()I"⟩ yJx4a65c_size_8abf5 wsJx4a65c_size_8abf5) := goodIn_app (goodIn_of _ (by decide +kernel)) ggX3_isTaken_Jx4a65c_size_8abf5
set_option maxRecDepth 20000 in
theorem ggX3_isTaken_Jx4a65c_get_915e3 : GoodIn wsX3_isTaken wsJx4a65c_get_915e3 := goodIn_r _ [20, 16, 21, 22, 23, 24, 25, 26, 27, 28, 29, 30, 31, 14, 32, 33, 41, 42, 43] (by decide +kernel) (by decide +kernel)
set_option maxRecDepth 20000 in
theorem gX3_isTaken_Jx4a65c_get_915e3_f35Jx4a65c : GoodIn wsX3_isTaken (va_wsF RX3 35 RJx4a65c ⟨"java/util/List", "get", "(I)Ljava/lang/Object;"⟩ yJx4a65c_get_915e3 wsJx4a65c_get_915e3) := goodIn_app (goodIn_of _ (by decide +kernel)) ggX3_isTaken_Jx4a65c_get_915e3
theorem dX3_isTaken_0 : decode cX3_isTaken 0 = .ok (.aload_n 2, 1) := by decide +kernel
theorem dX3_isTaken_1 : decode cX3_isTaken 1 = .ok (.iload_n 1, 1) := by decide +kernel
theorem dX3_isTaken_2 : decode cX3_isTaken 2 = .ok (.invokevirtual 49, 3) := by decide +kernel
theorem dX3_isTaken_5 : decode cX3_isTaken 5 = .ok (.istore_n 3, 1) := by decide +kernel
theorem dX3_isTaken_6 : decode cX3_isTaken 6 = .ok (.iload_n 3, 1) := by decide +kernel
theorem dX3_isTaken_7 : decode cX3_isTaken 7 = .ok (.iconst (-1), 1) := by decide +kernel
theorem dX3_isTaken_8 : decode cX3_isTaken 8 = .ok (.if_icmp .ne 5, 3) := by decide +kernel
theorem dX3_isTaken_11 : decode cX3_isTaken 11 = .ok (.iconst 0, 1) := by decide +kernel
theorem dX3_isTaken_12 : decode cX3_isTaken 12 = .ok (.ireturn, 1) := by decide +kernel
theorem dX3_isTaken_13 : decode cX3_isTaken 13 = .ok (.iconst 0, 1) := by decide +kernel
theorem dX3_isTaken_14 : decode cX3_isTaken 14 = .ok (.istore 4, 2) := by decide +kernel
theorem dX3_isTaken_16 : decode cX3_isTaken 16 = .ok (.iload 4, 2) := by decide +kernel
theorem dX3_isTaken_18 : decode cX3_isTaken 18 = .ok (.aload_n 0, 1) := by decide +kernel
theorem dX3_isTaken_19 : decode cX3_isTaken 19 = .ok (.getfield 22, 3) := by decide +kernel
theorem dX3_isTaken_22 : decode cX3_isTaken 22 = .ok (.invokeinterface 26 1, 5) := by decide +kernel
theorem dX3_isTaken_27 : decode cX3_isTaken 27 = .ok (.if_icmp .ge 49, 3) := by decide +kernel
theorem dX3_isTaken_30 : decode cX3_isTaken 30 = .ok (.aload_n 0, 1) := by decide +kernel
theorem dX3_isTaken_31 : decode cX3_isTaken 31 = .ok (.getfield 22, 3) := by decide +kernel
theorem dX3_isTaken_34 : decode cX3_isTaken 34 = .ok (.iload 4, 2) := by decide +kernel
theorem dX3_isTaken_36 : decode cX3_isTaken 36 = .ok (.invokeinterface 35 2, 5) := by decide +kernel
theorem dX3_isTaken_41 : decode cX3_isTaken 41 = .ok (.checkcast 39, 3) := by decide +kernel
theorem dX3_isTaken_44 : decode cX3_isTaken 44 = .ok (.astore 5, 2) := by decide +kernel
theorem dX3_isTaken_46 : decode cX3_isTaken 46 = .ok (.aload 5, 2) := by decide +kernel
theorem dX3_isTaken_48 : decode cX3_isTaken 48 = .ok (.getfield 53, 3) := by decide +kernel
theorem dX3_isTaken_51 : decode cX3_isTaken 51 = .ok (.aload_n 2, 1) := by decide +kernel
theorem dX3_isTaken_52 : decode cX3_isTaken 52 = .ok (.getfield 53, 3) := by decide +kernel
theorem dX3_isTaken_55 : decode cX3_isTaken 55 = .ok (.if_icmp .eq 15, 3) := by decide +kernel
theorem dX3_isTaken_58 : decode cX3_isTaken 58 = .ok (.aload 5, 2) := by decide +kernel
theorem dX3_isTaken_60 : decode cX3_isTaken 60 = .ok (.iload_n 1, 1) := by decide +kernel
theorem dX3_isTaken_61 : decode cX3_isTaken 61 = .ok (.invokevirtual 49, 3) := by decide +kernel
theorem dX3_isTaken_64 : decode cX3_isTaken 64 = .ok (.iload_n 3, 1) := by decide +kernel
theorem dX3_isTaken_65 : decode cX3_isTaken 65 = .ok (.if_icmp .ne 5, 3) := by decide +kernel
theorem dX3_isTaken_68 : decode cX3_isTaken 68 = .ok (.iconst 1, 1) := by decide +kernel
theorem dX3_isTaken_69 : decode cX3_isTaken 69 = .ok (.ireturn, 1) := by decide +kernel
theorem dX3_isTaken_70 : decode cX3_isTaken 70 = .ok (.iinc 4 1, 3) := by decide +kernel
theorem dX3_isTaken_73 : decode cX3_isTaken 73 = .ok (.goto (-57), 3) := by decide +kernel
theorem dX3_isTaken_76 : decode cX3_isTaken 76 = .ok (.iconst 0, 1) := by decide +kernel
theorem dX3_isTaken_77 : decode cX3_isTaken 77 = .ok (.ireturn, 1) := by decide +kernel
set_option maxRecDepth 20000 in
theorem ggX3_find_Jx4a65c_size_8abf5 : GoodIn wsX3_find wsJx4a65c_size_8abf5 := goodIn_r _ [8, 9, 34, 35, 36] (by decide +kernel) (by decide +kernel)
set_option maxRecDepth 20000 in
theorem gX3_find_Jx4a65c_size_8abf5_f26Jx4a65c : GoodIn wsX3_find (va_wsF RX3 26 RJx4a65c ⟨"java/util/List", "size", "()I"⟩ yJx4a65c_size_8abf5 wsJx4a65c_size_8abf5) := goodIn_app (goodIn_of _ (by decide +kernel)) ggX3_find_Jx4a65c_size_8abf5
set_option maxRecDepth 20000 in
theorem ggX3_find_Jx4a65c_get_915e3 : GoodIn wsX3_find wsJx4a65c_get_915e3 := goodIn_r _ [13, 9, 14, 15, 16, 17, 18, 19, 20, 21, 22, 23, 24, 7, 25, 26, 34, 35, 36] (by decide +kernel) (by decide +kernel)
set_option maxRecDepth 20000 in
theorem gX3_find_Jx4a65c_get_915e3_f35Jx4a65c : GoodIn wsX3_find (va_wsF RX3 35 RJx4a65c ⟨"java/util/List", "get", "(I)Ljava/lang/Object;"⟩ yJx4a65c_get_915e3 wsJx4a65c_get_915e3) := goodIn_app (goodIn_of _ (by decide +kernel)) ggX3_find_Jx4a65c_get_915e3
theorem dX3_find_0 : decode cX3_find 0 = .ok (.iconst 0, 1) := by decide +kernel
theorem dX3_find_1 : decode cX3_find 1 = .ok (.istore_n 2, 1) := by decide +kernel
theorem dX3_find_2 : decode cX3_find 2 = .ok (.iload_n 2, 1) := by decide +kernel
theorem dX3_find_3 : decode cX3_find 3 = .ok (.aload_n 0, 1) := by decide +kernel
theorem dX3_find_4 : decode cX3_find 4 = .ok (.getfield 22, 3) := by decide +kernel
theorem dX3_find_7 : decode cX3_find 7 = .ok (.invokeinterface 26 1, 5) := by decide +kernel
theorem dX3_find_12 : decode cX3_find 12 = .ok (.if_icmp .ge 33, 3) := by decide +kernel
theorem dX3_find_15 : decode cX3_find 15 = .ok (.aload_n 0, 1) := by decide +kernel
theorem dX3_find_16 : decode cX3_find 16 = .ok (.getfield 22, 3) := by decide +kernel
theorem dX3_find_19 : decode cX3_find 19 = .ok (.iload_n 2, 1) := by decide +kernel
theorem dX3_find_20 : decode cX3_find 20 = .ok (.invokeinterface 35 2, 5) := by decide +kernel
theorem dX3_find_25 : decode cX3_find 25 = .ok (.checkcast 39, 3) := by decide +kernel
theorem dX3_find_28 : decode cX3_find 28 = .ok (.astore_n 3, 1) := by decide +kernel
theorem dX3_find_29 : decode cX3_find 29 = .ok (.aload_n 3, 1) := by decide +kernel
theorem dX3_find_30 : decode cX3_find 30 = .ok (.getfield 53, 3) := by decide +kernel
theorem dX3_find_33 : decode cX3_find 33 = .ok (.iload_n 1, 1) := by decide +kernel
theorem dX3_find_34 : decode cX3_find 34 = .ok (.if_icmp .ne 5, 3) := by decide +kernel
theorem dX3_find_37 : decode cX3_find 37 = .ok (.aload_n 3, 1) := by decide +kernel
theorem dX3_find_38 : decode cX3_find 38 = .ok (.areturn, 1) := by decide +kernel
theorem dX3_find_39 : decode cX3_find 39 = .ok (.iinc 2 1, 3) := by decide +kernel
theorem dX3_find_42 : decode cX3_find 42 = .ok (.goto (-40), 3) := by decide +kernel
theorem dX3_find_45 : decode cX3_find 45 = .ok (.aconst_null, 1) := by decide +kernel
theorem dX3_find_46 : decode cX3_find 46 = .ok (.areturn, 1) := by decide +kernel
set_option maxRecDepth 20000 in
theorem ggX3_set_Jx4a65c_size_8abf5 : GoodIn wsX3_set wsJx4a65c_size_8abf5 := goodIn_r _ [8, 9, 91, 92, 93] (by decide +kernel) (by decide +kernel)
set_option maxRecDepth 20000 in
theorem gX3_set_Jx4a65c_size_8abf5_f26Jx4a65c : GoodIn wsX3_set (va_wsF RX3 26 RJx4a65c ⟨"java/util/List", "size", "()I"⟩ yJx4a65c_size_8abf5 wsJx4a65c_size_8abf5) := goodIn_app (goodIn_of _ (by decide +kernel)) ggX3_set_Jx4a65c_size_8abf5
set_option maxRecDepth 20000 in
theorem ggX3_set_Jx4a65c_get_915e3 : GoodIn wsX3_set wsJx4a65c_get_915e3 := goodIn_r _ [13, 9, 14, 15, 16, 17, 18, 19, 20, 21, 22, 23, 24, 7, 25, 26, 91, 92, 93] (by decide +kernel) (by decide +kernel)
set_option maxRecDepth 20000 in
theorem gX3_set_Jx4a65c_get_915e3_f35Jx4a65c : GoodIn wsX3_set (va_wsF RX3 35 RJx4a65c ⟨"java/util/List", "get", "(I)Ljava/lang/Object;"⟩ yJx4a65c_get_915e3 wsJx4a65c_get_915e3) := goodIn_app (goodIn_of _ (by decide +kernel)) ggX3_set_Jx4a65c_get_915e3
set_option maxRecDepth 20000 in
theorem ggX3_set_Jx4a65c_set_bcc79 : GoodIn wsX3_set wsJx4a65c_set_bcc79 := goodIn_r _ [30, 9, 26, 14, 15, 16, 17, 18, 19, 20, 21, 22, 23, 24, 7, 25, 91, 92, 93] (by decide +kernel) (by decide +kernel)
set_option maxRecDepth 20000 in
theorem gX3_set_Jx4a65c_set_bcc79_f57Jx4a65c : GoodIn wsX3_set (va_wsF RX3 57 RJx4a65c ⟨"java/util/List", "set", "(ILjava/lang/Object;)Ljava/lang/Object;"⟩ yJx4a65c_set_bcc79 wsJx4a65c_set_bcc79) := goodIn_app (goodIn_of _ (by decide +kernel)) ggX3_set_Jx4a65c_set_bcc79
set_option maxRecDepth 20000 in
theorem ggX3_set_Jx4a65c_add_9ea2d : GoodIn wsX3_set wsJx4a65c_add_9ea2d := goodIn_r _ [34, 35, 36, 26, 9, 37, 38, 39, 7, 40, 41, 42, 43, 44, 45, 46, 47, 48, 49, 50, 51, 52, 53, 54, 55, 56, 57, 58, 59, 60, 61, 62, 63, 64, 65, 66, 67, 68, 69, 70, 71, 72, 73, 74, 75, 76, 77, 78, 79, 80, 81, 82, 83, 91, 92, 93] (by decide +kernel) (by decide +kernel)
set_option maxRecDepth 20000 in
theorem gX3_set_Jx4a65c_add_9ea2d_f41Jx4a65c : GoodIn wsX3_set (va_wsF RX3 41 RJx4a65c ⟨"java/util/List", "add", "(Ljava/lang/Object;)Z"⟩ yJx4a65c_add_9ea2d wsJx4a65c_add_9ea2d) := goodIn_app (goodIn_of _ (by decide +kernel)) ggX3_set_Jx4a65c_add_9ea2d
theorem dX3_set_0 : decode cX3_set 0 = .ok (.iconst 0, 1) := by decide +kernel
theorem dX3_set_1 : decode cX3_set 1 = .ok (.istore_n 2, 1) := by decide +kernel
theorem dX3_set_2 : decode cX3_set 2 = .ok (.iload_n 2, 1) := by decide +kernel
theorem dX3_set_3 : decode cX3_set 3 = .ok (.aload_n 0, 1) := by decide +kernel
theorem dX3_set_4 : decode cX3_set 4 = .ok (.getfield 22, 3) := by decide +kernel
theorem dX3_set_7 : decode cX3_set 7 = .ok (.invokeinterface 26 1, 5) := by decide +kernel
theorem dX3_set_12 : decode cX3_set 12 = .ok (.if_icmp .ge 45, 3) := by decide +kernel
theorem dX3_set_15 : decode cX3_set 15 = .ok (.aload_n 0, 1) := by decide +kernel
theorem dX3_set_16 : decode cX3_set 16 = .ok (.getfield 22, 3) := by decide +kernel
theorem dX3_set_19 : decode cX3_set 19 = .ok (.iload_n 2, 1) := by decide +kernel
theorem dX3_set_20 : decode cX3_set 20 = .ok (.invokeinterface 35 2, 5) := by decide +kernel
theorem dX3_set_25 : decode cX3_set 25 = .ok (.checkcast 39, 3) := by decide +kernel
theorem dX3_set_28 : decode cX3_set 28 = .ok (.getfield 53, 3) := by decide +kernel
theorem dX3_set_31 : decode cX3_set 31 = .ok (.aload_n 1, 1) := by decide +kernel
theorem dX3_set_32 : decode cX3_set 32 = .ok (.getfield 53, 3) := by decide +kernel
theorem dX3_set_35 : decode cX3_set 35 = .ok (.if_icmp .ne 16, 3) := by decide +kernel
theorem dX3_set_38 : decode cX3_set 38 = .ok (.aload_n 0, 1) := by decide +kernel
theorem dX3_set_39 : decode cX3_set 39 = .ok (.getfield 22, 3) := by decide +kernel
theorem dX3_set_42 : decode cX3_set 42 = .ok (.iload_n 2, 1) := by decide +kernel
theorem dX3_set_43 : decode cX3_set 43 = .ok (.aload_n 1, 1) := by decide +kernel
theorem dX3_set_44 : decode cX3_set 44 = .ok (.invokeinterface 57 3, 5) := by decide +kernel
theorem dX3_set_49 : decode cX3_set 49 = .ok (.pop, 1) := by decide +kernel
theorem dX3_set_50 : decode cX3_set 50 = .ok (.return_, 1) := by decide +kernel
theorem dX3_set_51 : decode cX3_set 51 = .ok (.iinc 2 1, 3) := by decide +kernel
theorem dX3_set_54 : decode cX3_set 54 = .ok (.goto (-52), 3) := by decide +kernel
theorem dX3_set_57 : decode cX3_set 57 = .ok (.aload_n 0, 1) := by decide +kernel
theorem dX3_set_58 : decode cX3_set 58 = .ok (.getfield 22, 3) := by decide +kernel
theorem dX3_set_61 : decode cX3_set 61 = .ok (.aload_n 1, 1) := by decide +kernel
theorem dX3_set_62 : decode cX3_set 62 = .ok (.invokeinterface 41 2, 5) := by decide +kernel
theorem dX3_set_67 : decode cX3_set 67 = .ok (.pop, 1) := by decide +kernel
theorem dX3_set_68 : decode cX3_set 68 = .ok (.return_, 1) := by decide +kernel
set_option maxRecDepth 20000 in
theorem ggX3_countBetween_Jx4a65c_size_8abf5 : GoodIn wsX3_countBetween wsJx4a65c_size_8abf5 := goodIn_r _ [7, 8, 41, 42, 43] (by decide +kernel) (by decide +kernel)
set_option maxRecDepth 20000 in
theorem gX3_countBetween_Jx4a65c_size_8abf5_f26Jx4a65c : GoodIn wsX3_countBetween (va_wsF RX3 26 RJx4a65c ⟨"java/util/List", "size", "()I"⟩ yJx4a65c_size_8abf5 wsJx4a65c_size_8abf5) := goodIn_app (goodIn_of _ (by decide +kernel)) ggX3_countBetween_Jx4a65c_size_8abf5
set_option maxRecDepth 20000 in
theorem ggX3_countBetween_Jx4a65c_get_915e3 : GoodIn wsX3_countBetween wsJx4a65c_get_915e3 := goodIn_r _ [12, 8, 13, 14, 15, 16, 17, 18, 19, 20, 21, 22, 23, 6, 24, 25, 41, 42, 43] (by decide +kernel) (by decide +kernel)
set_option maxRecDepth 20000 in
theorem gX3_countBetween_Jx4a65c_get_915e3_f35Jx4a65c : GoodIn wsX3_countBetween (va_wsF RX3 35 RJx4a65c ⟨"java/util/List", "get", "(I)Ljava/lang/Object;"⟩ yJx4a65c_get_915e3 wsJx4a65c_get_915e3) := goodIn_app (goodIn_of _ (by decide +kernel)) ggX3_countBetween_Jx4a65c_get_915e3
set_option maxRecDepth 20000 in
theorem ggX3_countBetween_X2_isBetween : GoodIn wsX3_countBetween wsX2_isBetween := goodIn_r _ [30, 31, 32, 33, 34, 35, 36, 37, 44, 45, 46, 47] (by decide +kernel) (by decide +kernel)
set_option maxRecDepth 20000 in
theorem gX3_countBetween_X2_isBetween : GoodIn wsX3_countBetween (wsV RX3 61 RX2 yX2_isBetween wsX2_isBetween) := goodIn_app (goodIn_of _ (by decide +kernel)) ggX3_countBetween_X2_isBetween
theorem dX3_countBetween_0 : decode cX3_countBetween 0 = .ok (.iconst 0, 1) := by decide +kernel
theorem dX3_countBetween_1 : decode cX3_countBetween 1 = .ok (.istore_n 3, 1) := by decide +kernel
theorem dX3_countBetween_2 : decode cX3_countBetween 2 = .ok (.iconst 0, 1) := by decide +kernel
theorem dX3_countBetween_3 : decode cX3_countBetween 3 = .ok (.istore 4, 2) := by decide +kernel
theorem dX3_countBetween_5 : decode cX3_countBetween 5 = .ok (.iload 4, 2) := by decide +kernel
theorem dX3_countBetween_7 : decode cX3_countBetween 7 = .ok (.aload_n 0, 1) := by decide +kernel
theorem dX3_countBetween_8 : decode cX3_countBetween 8 = .ok (.getfield 22, 3) := by decide +kernel
theorem dX3_countBetween_11 : decode cX3_countBetween 11 = .ok (.invokeinterface 26 1, 5) := by decide +kernel
theorem dX3_countBetween_16 : decode cX3_countBetween 16 = .ok (.if_icmp .ge 34, 3) := by decide +kernel
theorem dX3_countBetween_19 : decode cX3_countBetween 19 = .ok (.aload_n 0, 1) := by decide +kernel
theorem dX3_countBetween_20 : decode cX3_countBetween 20 = .ok (.getfield 22, 3) := by decide +kernel
theorem dX3_countBetween_23 : decode cX3_countBetween 23 = .ok (.iload 4, 2) := by decide +kernel
theorem dX3_countBetween_25 : decode cX3_countBetween 25 = .ok (.invokeinterface 35 2, 5) := by decide +kernel
theorem dX3_countBetween_30 : decode cX3_countBetween 30 = .ok (.checkcast 39, 3) := by decide +kernel
theorem dX3_countBetween_33 : decode cX3_countBetween 33 = .ok (.iload_n 1, 1) := by decide +kernel
theorem dX3_countBetween_34 : decode cX3_countBetween 34 = .ok (.iload_n 2, 1) := by decide +kernel
theorem dX3_countBetween_35 : decode cX3_countBetween 35 = .ok (.invokevirtual 61, 3) := by decide +kernel
theorem dX3_countBetween_38 : decode cX3_countBetween 38 = .ok (.ifCond .eq 6, 3) := by decide +kernel
theorem dX3_countBetween_41 : decode cX3_countBetween 41 = .ok (.iinc 3 1, 3) := by decide +kernel
theorem dX3_countBetween_44 : decode cX3_countBetween 44 = .ok (.iinc 4 1, 3) := by decide +kernel
theorem dX3_countBetween_47 : decode cX3_countBetween 47 = .ok (.goto (-42), 3) := by decide +kernel
theorem dX3_countBetween_50 : decode cX3_countBetween 50 = .ok (.iload_n 3, 1) := by decide +kernel
theorem dX3_countBetween_51 : decode cX3_countBetween 51 = .ok (.ireturn, 1) := by decide +kernel
set_option maxRecDepth 20000 in
theorem ggX3_removeBetween_Jx4a65c_size_8abf5 : GoodIn wsX3_removeBetween wsJx4a65c_size_8abf5 := goodIn_r _ [7, 8, 55, 56, 57] (by decide +kernel) (by decide +kernel)
set_option maxRecDepth 20000 in
theorem gX3_removeBetween_Jx4a65c_size_8abf5_f26Jx4a65c : GoodIn wsX3_removeBetween (va_wsF RX3 26 RJx4a65c ⟨"java/util/List", "size", "()I"⟩ yJx4a65c_size_8abf5 wsJx4a65c_size_8abf5) := goodIn_app (goodIn_of _ (by decide +kernel)) ggX3_removeBetween_Jx4a65c_size_8abf5
set_option maxRecDepth 20000 in
theorem ggX3_removeBetween_Jx4a65c_get_915e3 : GoodIn wsX3_removeBetween wsJx4a65c_get_915e3 := goodIn_r _ [12, 8, 13, 14, 15, 16, 17, 18, 19, 20, 21, 22, 23, 6, 24, 25, 55, 56, 57] (by decide +kernel) (by decide +kernel)
set_option maxRecDepth 20000 in
theorem gX3_removeBetween_Jx4a65c_get_915e3_f35Jx4a65c : GoodIn wsX3_removeBetween (va_wsF RX3 35 RJx4a65c ⟨"java/util/List", "get", "(I)Ljava/lang/Object;"⟩ yJx4a65c_get_915e3 wsJx4a65c_get_915e3) := goodIn_app (goodIn_of _ (by decide +kernel)) ggX3_removeBetween_Jx4a65c_get_915e3
set_option maxRecDepth 20000 in
theorem ggX3_removeBetween_X2_isBetween : GoodIn wsX3_removeBetween wsX2_isBetween := goodIn_r _ [30, 31, 32, 33, 34, 35, 36, 37, 58, 59, 60, 61] (by decide +kernel) (by decide +kernel)
set_option maxRecDepth 20000 in
theorem gX3_removeBetween_X2_isBetween : GoodIn wsX3_removeBetween (wsV RX3 61 RX2 yX2_isBetween wsX2_isBetween) := goodIn_app (goodIn_of _ (by decide +kernel)) ggX3_removeBetween_X2_isBetween
set_option maxRecDepth 20000 in
theorem ggX3_removeBetween_Jx4a65c_remove_915e3 : GoodIn wsX3_removeBetween wsJx4a65c_remove_915e3 := goodIn_r _ [41, 8, 25, 13, 14, 15, 16, 17, 18, 19, 20, 42, 43, 44, 6, 45, 46, 47, 48, 49, 50, 51, 55, 56, 57] (by decide +kernel) (by decide +kernel)
set_option maxRecDepth 20000 in
theorem gX3_removeBetween_Jx4a65c_remove_915e3_f65Jx4a65c : GoodIn wsX3_removeBetween (va_wsF RX3 65 RJx4a65c ⟨"java/util/List", "remove", "(I)Ljava/lang/Object;"⟩ yJx4a65c_remove_915e3 wsJx4a65c_remove_915e3) := goodIn_app (goodIn_of _ (by decide +kernel)) ggX3_removeBetween_Jx4a65c_remove_915e3
theorem dX3_removeBetween_0 : decode cX3_removeBetween 0 = .ok (.iconst 0, 1) := by decide +kernel
theorem dX3_removeBetween_1 : decode cX3_removeBetween 1 = .ok (.istore_n 3, 1) := by decide +kernel
theorem dX3_removeBetween_2 : decode cX3_removeBetween 2 = .ok (.aload_n 0, 1) := by decide +kernel
theorem dX3_removeBetween_3 : decode cX3_removeBetween 3 = .ok (.getfield 22, 3) := by decide +kernel
theorem dX3_removeBetween_6 : decode cX3_removeBetween 6 = .ok (.invokeinterface 26 1, 5) := by decide +kernel
theorem dX3_removeBetween_11 : decode cX3_removeBetween 11 = .ok (.iconst 1, 1) := by decide +kernel
theorem dX3_removeBetween_12 : decode cX3_removeBetween 12 = .ok (.isub, 1) := by decide +kernel
theorem dX3_removeBetween_13 : decode cX3_removeBetween 13 = .ok (.istore 4, 2) := by decide +kernel
theorem dX3_removeBetween_15 : decode cX3_removeBetween 15 = .ok (.iload 4, 2) := by decide +kernel
theorem dX3_removeBetween_17 : decode cX3_removeBetween 17 = .ok (.ifCond .lt 46, 3) := by decide +kernel
theorem dX3_removeBetween_20 : decode cX3_removeBetween 20 = .ok (.aload_n 0, 1) := by decide +kernel
theorem dX3_removeBetween_21 : decode cX3_removeBetween 21 = .ok (.getfield 22, 3) := by decide +kernel
theorem dX3_removeBetween_24 : decode cX3_removeBetween 24 = .ok (.iload 4, 2) := by decide +kernel
theorem dX3_removeBetween_26 : decode cX3_removeBetween 26 = .ok (.invokeinterface 35 2, 5) := by decide +kernel
theorem dX3_removeBetween_31 : decode cX3_removeBetween 31 = .ok (.checkcast 39, 3) := by decide +kernel
theorem dX3_removeBetween_34 : decode cX3_removeBetween 34 = .ok (.iload_n 1, 1) := by decide +kernel
theorem dX3_removeBetween_35 : decode cX3_removeBetween 35 = .ok (.iload_n 2, 1) := by decide +kernel
theorem dX3_removeBetween_36 : decode cX3_removeBetween 36 = .ok (.invokevirtual 61, 3) := by decide +kernel
theorem dX3_removeBetween_39 : decode cX3_removeBetween 39 = .ok (.ifCond .eq 18, 3) := by decide +kernel
theorem dX3_removeBetween_42 : decode cX3_removeBetween 42 = .ok (.aload_n 0, 1) := by decide +kernel
theorem dX3_removeBetween_43 : decode cX3_removeBetween 43 = .ok (.getfield 22, 3) := by decide +kernel
theorem dX3_removeBetween_46 : decode cX3_removeBetween 46 = .ok (.iload 4, 2) := by decide +kernel
theorem dX3_removeBetween_48 : decode cX3_removeBetween 48 = .ok (.invokeinterface 65 2, 5) := by decide +kernel
theorem dX3_removeBetween_53 : decode cX3_removeBetween 53 = .ok (.pop, 1) := by decide +kernel
theorem dX3_removeBetween_54 : decode cX3_removeBetween 54 = .ok (.iinc 3 1, 3) := by decide +kernel
theorem dX3_removeBetween_57 : decode cX3_removeBetween 57 = .ok (.iinc 4 (-1), 3) := by decide +kernel
theorem dX3_removeBetween_60 : decode cX3_removeBetween 60 = .ok (.goto (-45), 3) := by decide +kernel
theorem dX3_removeBetween_63 : decode cX3_removeBetween 63 = .ok (.iload_n 3, 1) := by decide +kernel
theorem dX3_removeBetween_64 : decode cX3_removeBetween 64 = .ok (.ireturn, 1) := by decide +kernel
set_option maxRecDepth 20000 in
theorem ggX3_firstFrom_Jx4a65c_size_8abf5 : GoodIn wsX3_firstFrom wsJx4a65c_size_8abf5 := goodIn_r _ [7, 8, 49, 50, 51] (by decide +kernel) (by decide +kernel)
set_option maxRecDepth 20000 in
theorem gX3_firstFrom_Jx4a65c_size_8abf5_f26Jx4a65c : GoodIn wsX3_firstFrom (va_wsF RX3 26 RJx4a65c ⟨"java/util/List", "size", "()I"⟩ yJx4a65c_size_8abf5 wsJx4a65c_size_8abf5) := goodIn_app (goodIn_of _ (by decide +kernel)) ggX3_firstFrom_Jx4a65c_size_8abf5
set_option maxRecDepth 20000 in
theorem ggX3_firstFrom_Jx4a65c_get_915e3 : GoodIn wsX3_firstFrom wsJx4a65c_get_915e3 := goodIn_r _ [12, 8, 13, 14, 15, 16, 17, 18, 19, 20, 21, 22, 23, 6, 24, 25, 49, 50, 51] (by decide +kernel) (by decide +kernel)
set_option maxRecDepth 20000 in
theorem gX3_firstFrom_Jx4a65c_get_915e3_f35Jx4a65c : GoodIn wsX3_firstFrom (va_wsF RX3 35 RJx4a65c ⟨"java/util/List", "get", "(I)Ljava/lang/Object;"⟩ yJx4a65c_get_915e3 wsJx4a65c_get_915e3) := goodIn_app (goodIn_of _ (by decide +kernel)) ggX3_firstFrom_Jx4a65c_get_915e3
set_option maxRecDepth 20000 in
theorem ggX3_firstFrom_X2_place : GoodIn wsX3_firstFrom wsX2_place := goodIn_r _ [30, 31, 32, 33, 34, 35, 36, 37, 38, 39, 40, 41, 42, 29, 43, 44, 45, 52, 53, 54, 55] (by decide +kernel) (by decide +kernel)
set_option maxRecDepth 20000 in
theorem gX3_firstFrom_X2_place : GoodIn wsX3_firstFrom (wsV RX3 68 RX2 yX2_place wsX2_place) := goodIn_app (goodIn_of _ (by decide +kernel)) ggX3_firstFrom_X2_place
theorem dX3_firstFrom_0 : decode cX3_firstFrom 0 = .ok (.aconst_null, 1) := by decide +kernel
theorem dX3_firstFrom_1 : decode cX3_firstFrom 1 = .ok (.astore 4, 2) := by decide +kernel
theorem dX3_firstFrom_3 : decode cX3_firstFrom 3 = .ok (.iconst 0, 1) := by decide +kernel
theorem dX3_firstFrom_4 : decode cX3_firstFrom 4 = .ok (.istore 5, 2) := by decide +kernel
theorem dX3_firstFrom_6 : decode cX3_firstFrom 6 = .ok (.iload 5, 2) := by decide +kernel
theorem dX3_firstFrom_8 : decode cX3_firstFrom 8 = .ok (.aload_n 0, 1) := by decide +kernel
theorem dX3_firstFrom_9 : decode cX3_firstFrom 9 = .ok (.getfield 22, 3) := by decide +kernel
theorem dX3_firstFrom_12 : decode cX3_firstFrom 12 = .ok (.invokeinterface 26 1, 5) := by decide +kernel
theorem dX3_firstFrom_17 : decode cX3_firstFrom 17 = .ok (.if_icmp .ge 61, 3) := by decide +kernel
theorem dX3_firstFrom_20 : decode cX3_firstFrom 20 = .ok (.aload_n 0, 1) := by decide +kernel
theorem dX3_firstFrom_21 : decode cX3_firstFrom 21 = .ok (.getfield 22, 3) := by decide +kernel
theorem dX3_firstFrom_24 : decode cX3_firstFrom 24 = .ok (.iload 5, 2) := by decide +kernel
theorem dX3_firstFrom_26 : decode cX3_firstFrom 26 = .ok (.invokeinterface 35 2, 5) := by decide +kernel
theorem dX3_firstFrom_31 : decode cX3_firstFrom 31 = .ok (.checkcast 39, 3) := by decide +kernel
theorem dX3_firstFrom_34 : decode cX3_firstFrom 34 = .ok (.astore 6, 2) := by decide +kernel
theorem dX3_firstFrom_36 : decode cX3_firstFrom 36 = .ok (.aload 6, 2) := by decide +kernel
theorem dX3_firstFrom_38 : decode cX3_firstFrom 38 = .ok (.iload_n 1, 1) := by decide +kernel
theorem dX3_firstFrom_39 : decode cX3_firstFrom 39 = .ok (.invokevirtual 68, 3) := by decide +kernel
theorem dX3_firstFrom_42 : decode cX3_firstFrom 42 = .ok (.lstore 7, 2) := by decide +kernel
theorem dX3_firstFrom_44 : decode cX3_firstFrom 44 = .ok (.lload 7, 2) := by decide +kernel
theorem dX3_firstFrom_46 : decode cX3_firstFrom 46 = .ok (.lload_n 2, 1) := by decide +kernel
theorem dX3_firstFrom_47 : decode cX3_firstFrom 47 = .ok (.lcmp, 1) := by decide +kernel
theorem dX3_firstFrom_48 : decode cX3_firstFrom 48 = .ok (.ifCond .lt 24, 3) := by decide +kernel
theorem dX3_firstFrom_51 : decode cX3_firstFrom 51 = .ok (.aload 4, 2) := by decide +kernel
theorem dX3_firstFrom_53 : decode cX3_firstFrom 53 = .ok (.ifnull 15, 3) := by decide +kernel
theorem dX3_firstFrom_56 : decode cX3_firstFrom 56 = .ok (.lload 7, 2) := by decide +kernel
theorem dX3_firstFrom_58 : decode cX3_firstFrom 58 = .ok (.aload 4, 2) := by decide +kernel
theorem dX3_firstFrom_60 : decode cX3_firstFrom 60 = .ok (.iload_n 1, 1) := by decide +kernel
theorem dX3_firstFrom_61 : decode cX3_firstFrom 61 = .ok (.invokevirtual 68, 3) := by decide +kernel
theorem dX3_firstFrom_64 : decode cX3_firstFrom 64 = .ok (.lcmp, 1) := by decide +kernel
theorem dX3_firstFrom_65 : decode cX3_firstFrom 65 = .ok (.ifCond .ge 7, 3) := by decide +kernel
theorem dX3_firstFrom_68 : decode cX3_firstFrom 68 = .ok (.aload 6, 2) := by decide +kernel
theorem dX3_firstFrom_70 : decode cX3_firstFrom 70 = .ok (.astore 4, 2) := by decide +kernel
theorem dX3_firstFrom_72 : decode cX3_firstFrom 72 = .ok (.iinc 5 1, 3) := by decide +kernel
theorem dX3_firstFrom_75 : decode cX3_firstFrom 75 = .ok (.goto (-69), 3) := by decide +kernel
theorem dX3_firstFrom_78 : decode cX3_firstFrom 78 = .ok (.aload 4, 2) := by decide +kernel
theorem dX3_firstFrom_80 : decode cX3_firstFrom 80 = .ok (.areturn, 1) := by decide +kernel
set_option maxRecDepth 20000 in
theorem ggX3_lastBelow_Jx4a65c_size_8abf5 : GoodIn wsX3_lastBelow wsJx4a65c_size_8abf5 := goodIn_r _ [7, 8, 49, 50, 51] (by decide +kernel) (by decide +kernel)
set_option maxRecDepth 20000 in
theorem gX3_lastBelow_Jx4a65c_size_8abf5_f26Jx4a65c : GoodIn wsX3_lastBelow (va_wsF RX3 26 RJx4a65c ⟨"java/util/List", "size", "()I"⟩ yJx4a65c_size_8abf5 wsJx4a65c_size_8abf5) := goodIn_app (goodIn_of _ (by decide +kernel)) ggX3_lastBelow_Jx4a65c_size_8abf5
set_option maxRecDepth 20000 in
theorem ggX3_lastBelow_Jx4a65c_get_915e3 : GoodIn wsX3_lastBelow wsJx4a65c_get_915e3 := goodIn_r _ [12, 8, 13, 14, 15, 16, 17, 18, 19, 20, 21, 22, 23, 6, 24, 25, 49, 50, 51] (by decide +kernel) (by decide +kernel)
set_option maxRecDepth 20000 in
theorem gX3_lastBelow_Jx4a65c_get_915e3_f35Jx4a65c : GoodIn wsX3_lastBelow (va_wsF RX3 35 RJx4a65c ⟨"java/util/List", "get", "(I)Ljava/lang/Object;"⟩ yJx4a65c_get_915e3 wsJx4a65c_get_915e3) := goodIn_app (goodIn_of _ (by decide +kernel)) ggX3_lastBelow_Jx4a65c_get_915e3
set_option maxRecDepth 20000 in
theorem ggX3_lastBelow_X2_place : GoodIn wsX3_lastBelow wsX2_place := goodIn_r _ [30, 31, 32, 33, 34, 35, 36, 37, 38, 39, 40, 41, 42, 29, 43, 44, 45, 52, 53, 54, 55] (by decide +kernel) (by decide +kernel)
set_option maxRecDepth 20000 in
theorem gX3_lastBelow_X2_place : GoodIn wsX3_lastBelow (wsV RX3 68 RX2 yX2_place wsX2_place) := goodIn_app (goodIn_of _ (by decide +kernel)) ggX3_lastBelow_X2_place
theorem dX3_lastBelow_0 : decode cX3_lastBelow 0 = .ok (.aconst_null, 1) := by decide +kernel
theorem dX3_lastBelow_1 : decode cX3_lastBelow 1 = .ok (.astore 4, 2) := by decide +kernel
theorem dX3_lastBelow_3 : decode cX3_lastBelow 3 = .ok (.iconst 0, 1) := by decide +kernel
theorem dX3_lastBelow_4 : decode cX3_lastBelow 4 = .ok (.istore 5, 2) := by decide +kernel
theorem dX3_lastBelow_6 : decode cX3_lastBelow 6 = .ok (.iload 5, 2) := by decide +kernel
theorem dX3_lastBelow_8 : decode cX3_lastBelow 8 = .ok (.aload_n 0, 1) := by decide +kernel
theorem dX3_lastBelow_9 : decode cX3_lastBelow 9 = .ok (.getfield 22, 3) := by decide +kernel
theorem dX3_lastBelow_12 : decode cX3_lastBelow 12 = .ok (.invokeinterface 26 1, 5) := by decide +kernel
theorem dX3_lastBelow_17 : decode cX3_lastBelow 17 = .ok (.if_icmp .ge 68, 3) := by decide +kernel
theorem dX3_lastBelow_20 : decode cX3_lastBelow 20 = .ok (.aload_n 0, 1) := by decide +kernel
theorem dX3_lastBelow_21 : decode cX3_lastBelow 21 = .ok (.getfield 22, 3) := by decide +kernel
theorem dX3_lastBelow_24 : decode cX3_lastBelow 24 = .ok (.iload 5, 2) := by decide +kernel
theorem dX3_lastBelow_26 : decode cX3_lastBelow 26 = .ok (.invokeinterface 35 2, 5) := by decide +kernel
theorem dX3_lastBelow_31 : decode cX3_lastBelow 31 = .ok (.checkcast 39, 3) := by decide +kernel
theorem dX3_lastBelow_34 : decode cX3_lastBelow 34 = .ok (.astore 6, 2) := by decide +kernel
theorem dX3_lastBelow_36 : decode cX3_lastBelow 36 = .ok (.aload 6, 2) := by decide +kernel
theorem dX3_lastBelow_38 : decode cX3_lastBelow 38 = .ok (.iload_n 1, 1) := by decide +kernel
theorem dX3_lastBelow_39 : decode cX3_lastBelow 39 = .ok (.invokevirtual 68, 3) := by decide +kernel
theorem dX3_lastBelow_42 : decode cX3_lastBelow 42 = .ok (.lstore 7, 2) := by decide +kernel
theorem dX3_lastBelow_44 : decode cX3_lastBelow 44 = .ok (.lload 7, 2) := by decide +kernel
theorem dX3_lastBelow_46 : decode cX3_lastBelow 46 = .ok (.lconst 0, 1) := by decide +kernel
theorem dX3_lastBelow_47 : decode cX3_lastBelow 47 = .ok (.lcmp, 1) := by decide +kernel
theorem dX3_lastBelow_48 : decode cX3_lastBelow 48 = .ok (.ifCond .lt 31, 3) := by decide +kernel
theorem dX3_lastBelow_51 : decode cX3_lastBelow 51 = .ok (.lload 7, 2) := by decide +kernel
theorem dX3_lastBelow_53 : decode cX3_lastBelow 53 = .ok (.lload_n 2, 1) := by decide +kernel
theorem dX3_lastBelow_54 : decode cX3_lastBelow 54 = .ok (.lcmp, 1) := by decide +kernel
theorem dX3_lastBelow_55 : decode cX3_lastBelow 55 = .ok (.ifCond .ge 24, 3) := by decide +kernel
theorem dX3_lastBelow_58 : decode cX3_lastBelow 58 = .ok (.aload 4, 2) := by decide +kernel
theorem dX3_lastBelow_60 : decode cX3_lastBelow 60 = .ok (.ifnull 15, 3) := by decide +kernel
theorem dX3_lastBelow_63 : decode cX3_lastBelow 63 = .ok (.lload 7, 2) := by decide +kernel
theorem dX3_lastBelow_65 : decode cX3_lastBelow 65 = .ok (.aload 4, 2) := by decide +kernel
theorem dX3_lastBelow_67 : decode cX3_lastBelow 67 = .ok (.iload_n 1, 1) := by decide +kernel
theorem dX3_lastBelow_68 : decode cX3_lastBelow 68 = .ok (.invokevirtual 68, 3) := by decide +kernel
theorem dX3_lastBelow_71 : decode cX3_lastBelow 71 = .ok (.lcmp, 1) := by decide +kernel
theorem dX3_lastBelow_72 : decode cX3_lastBelow 72 = .ok (.ifCond .le 7, 3) := by decide +kernel
theorem dX3_lastBelow_75 : decode cX3_lastBelow 75 = .ok (.aload 6, 2) := by decide +kernel
theorem dX3_lastBelow_77 : decode cX3_lastBelow 77 = .ok (.astore 4, 2) := by decide +kernel
theorem dX3_lastBelow_79 : decode cX3_lastBelow 79 = .ok (.iinc 5 1, 3) := by decide +kernel
theorem dX3_lastBelow_82 : decode cX3_lastBelow 82 = .ok (.goto (-76), 3) := by decide +kernel
theorem dX3_lastBelow_85 : decode cX3_lastBelow 85 = .ok (.aload 4, 2) := by decide +kernel
theorem dX3_lastBelow_87 : decode cX3_lastBelow 87 = .ok (.areturn, 1) := by decide +kernel
theorem dX4_init_0 : decode cX4_init 0 = .ok (.aload_n 0, 1) := by decide +kernel
theorem dX4_init_1 : decode cX4_init 1 = .ok (.invokespecial 1, 3) := by decide +kernel
theorem dX4_init_4 : decode cX4_init 4 = .ok (.aload_n 0, 1) := by decide +kernel
theorem dX4_init_5 : decode cX4_init 5 = .ok (.iconst 0, 1) := by decide +kernel
theorem dX4_init_6 : decode cX4_init 6 = .ok (.putfield 9, 3) := by decide +kernel
theorem dX4_init_9 : decode cX4_init 9 = .ok (.aload_n 0, 1) := by decide +kernel
theorem dX4_init_10 : decode cX4_init 10 = .ok (.iconst 0, 1) := by decide +kernel
theorem dX4_init_11 : decode cX4_init 11 = .ok (.putfield 13, 3) := by decide +kernel
theorem dX4_init_14 : decode cX4_init 14 = .ok (.aload_n 0, 1) := by decide +kernel
theorem dX4_init_15 : decode cX4_init 15 = .ok (.iconst 0, 1) := by decide +kernel
theorem dX4_init_16 : decode cX4_init 16 = .ok (.putfield 16, 3) := by decide +kernel
theorem dX4_init_19 : decode cX4_init 19 = .ok (.return_, 1) := by decide +kernel
theorem dX4_isInside_0 : decode cX4_isInside 0 = .ok (.aload_n 0, 1) := by decide +kernel
theorem dX4_isInside_1 : decode cX4_isInside 1 = .ok (.getfield 9, 3) := by decide +kernel
theorem dX4_isInside_4 : decode cX4_isInside 4 = .ok (.iconst 1, 1) := by decide +kernel
theorem dX4_isInside_5 : decode cX4_isInside 5 = .ok (.if_icmp .eq 11, 3) := by decide +kernel
theorem dX4_isInside_8 : decode cX4_isInside 8 = .ok (.aload_n 0, 1) := by decide +kernel
theorem dX4_isInside_9 : decode cX4_isInside 9 = .ok (.getfield 9, 3) := by decide +kernel
theorem dX4_isInside_12 : decode cX4_isInside 12 = .ok (.iconst 2, 1) := by decide +kernel
theorem dX4_isInside_13 : decode cX4_isInside 13 = .ok (.if_icmp .ne 7, 3) := by decide +kernel
theorem dX4_isInside_16 : decode cX4_isInside 16 = .ok (.iconst 1, 1) := by decide +kernel
theorem dX4_isInside_17 : decode cX4_isInside 17 = .ok (.goto 4, 3) := by decide +kernel
theorem dX4_isInside_20 : decode cX4_isInside 20 = .ok (.iconst 0, 1) := by decide +kernel
theorem dX4_isInside_21 : decode cX4_isInside 21 = .ok (.ireturn, 1) := by decide +kernel
theorem dX5_init_0 : decode cX5_init 0 = .ok (.aload_n 0, 1) := by decide +kernel
theorem dX5_init_1 : decode cX5_init 1 = .ok (.invokespecial 1, 3) := by decide +kernel
theorem dX5_init_4 : decode cX5_init 4 = .ok (.aload_n 0, 1) := by decide +kernel
theorem dX5_init_5 : decode cX5_init 5 = .ok (.iconst 0, 1) := by decide +kernel
theorem dX5_init_6 : decode cX5_init 6 = .ok (.putfield 9, 3) := by decide +kernel
theorem dX5_init_9 : decode cX5_init 9 = .ok (.aload_n 0, 1) := by decide +kernel
theorem dX5_init_10 : decode cX5_init 10 = .ok (.aload_n 1, 1) := by decide +kernel
theorem dX5_init_11 : decode cX5_init 11 = .ok (.putfield 13, 3) := by decide +kernel
theorem dX5_init_14 : decode cX5_init 14 = .ok (.aload_n 0, 1) := by decide +kernel
theorem dX5_init_15 : decode cX5_init 15 = .ok (.iload_n 2, 1) := by decide +kernel
theorem dX5_init_16 : decode cX5_init 16 = .ok (.putfield 17, 3) := by decide +kernel
theorem dX5_init_19 : decode cX5_init 19 = .ok (.aload_n 0, 1) := by decide +kernel
theorem dX5_init_20 : decode cX5_init 20 = .ok (.iload_n 3, 1) := by decide +kernel
theorem dX5_init_21 : decode cX5_init 21 = .ok (.putfield 20, 3) := by decide +kernel
theorem dX5_init_24 : decode cX5_init 24 = .ok (.return_, 1) := by decide +kernel
theorem dX5_isPending_0 : decode cX5_isPending 0 = .ok (.aload_n 0, 1) := by decide +kernel
theorem dX5_isPending_1 : decode cX5_isPending 1 = .ok (.getfield 9, 3) := by decide +kernel
theorem dX5_isPending_4 : decode cX5_isPending 4 = .ok (.ifCond .eq 11, 3) := by decide +kernel
theorem dX5_isPending_7 : decode cX5_isPending 7 = .ok (.aload_n 0, 1) := by decide +kernel
theorem dX5_isPending_8 : decode cX5_isPending 8 = .ok (.getfield 9, 3) := by decide +kernel
theorem dX5_isPending_11 : decode cX5_isPending 11 = .ok (.iconst 1, 1) := by decide +kernel
theorem dX5_isPending_12 : decode cX5_isPending 12 = .ok (.if_icmp .ne 7, 3) := by decide +kernel
theorem dX5_isPending_15 : decode cX5_isPending 15 = .ok (.iconst 1, 1) := by decide +kernel
theorem dX5_isPending_16 : decode cX5_isPending 16 = .ok (.goto 4, 3) := by decide +kernel
theorem dX5_isPending_19 : decode cX5_isPending 19 = .ok (.iconst 0, 1) := by decide +kernel
theorem dX5_isPending_20 : decode cX5_isPending 20 = .ok (.ireturn, 1) := by decide +kernel
theorem dX5_hasInScope_0 : decode cX5_hasInScope 0 = .ok (.aload_n 0, 1) := by decide +kernel
theorem dX5_hasInScope_1 : decode cX5_hasInScope 1 = .ok (.getfield 17, 3) := by decide +kernel
theorem dX5_hasInScope_4 : decode cX5_hasInScope 4 = .ok (.iload_n 1, 1) := by decide +kernel
theorem dX5_hasInScope_5 : decode cX5_hasInScope 5 = .ok (.ishr, 1) := by decide +kernel
theorem dX5_hasInScope_6 : decode cX5_hasInScope 6 = .ok (.iconst 1, 1) := by decide +kernel
theorem dX5_hasInScope_7 : decode cX5_hasInScope 7 = .ok (.iand, 1) := by decide +kernel
theorem dX5_hasInScope_8 : decode cX5_hasInScope 8 = .ok (.iconst 1, 1) := by decide +kernel
theorem dX5_hasInScope_9 : decode cX5_hasInScope 9 = .ok (.if_icmp .ne 7, 3) := by decide +kernel
theorem dX5_hasInScope_12 : decode cX5_hasInScope 12 = .ok (.iconst 1, 1) := by decide +kernel
theorem dX5_hasInScope_13 : decode cX5_hasInScope 13 = .ok (.goto 4, 3) := by decide +kernel
theorem dX5_hasInScope_16 : decode cX5_hasInScope 16 = .ok (.iconst 0, 1) := by decide +kernel
theorem dX5_hasInScope_17 : decode cX5_hasInScope 17 = .ok (.ireturn, 1) := by decide +kernel
theorem dX5_conflictsWith_0 : decode cX5_conflictsWith 0 = .ok (.aload_n 0, 1) := by decide +kernel
theorem dX5_conflictsWith_1 : decode cX5_conflictsWith 1 = .ok (.getfield 17, 3) := by decide +kernel
theorem dX5_conflictsWith_4 : decode cX5_conflictsWith 4 = .ok (.aload_n 1, 1) := by decide +kernel
theorem dX5_conflictsWith_5 : decode cX5_conflictsWith 5 = .ok (.getfield 17, 3) := by decide +kernel
theorem dX5_conflictsWith_8 : decode cX5_conflictsWith 8 = .ok (.iand, 1) := by decide +kernel
theorem dX5_conflictsWith_9 : decode cX5_conflictsWith 9 = .ok (.ifCond .eq 21, 3) := by decide +kernel
theorem dX5_conflictsWith_12 : decode cX5_conflictsWith 12 = .ok (.aload_n 0, 1) := by decide +kernel
theorem dX5_conflictsWith_13 : decode cX5_conflictsWith 13 = .ok (.getfield 20, 3) := by decide +kernel
theorem dX5_conflictsWith_16 : decode cX5_conflictsWith 16 = .ok (.ifCond .ne 10, 3) := by decide +kernel
theorem dX5_conflictsWith_19 : decode cX5_conflictsWith 19 = .ok (.aload_n 1, 1) := by decide +kernel
theorem dX5_conflictsWith_20 : decode cX5_conflictsWith 20 = .ok (.getfield 20, 3) := by decide +kernel
theorem dX5_conflictsWith_23 : decode cX5_conflictsWith 23 = .ok (.ifCond .eq 7, 3) := by decide +kernel
theorem dX5_conflictsWith_26 : decode cX5_conflictsWith 26 = .ok (.iconst 1, 1) := by decide +kernel
theorem dX5_conflictsWith_27 : decode cX5_conflictsWith 27 = .ok (.goto 4, 3) := by decide +kernel
theorem dX5_conflictsWith_30 : decode cX5_conflictsWith 30 = .ok (.iconst 0, 1) := by decide +kernel
theorem dX5_conflictsWith_31 : decode cX5_conflictsWith 31 = .ok (.ireturn, 1) := by decide +kernel
set_option maxRecDepth 20000 in
theorem ggX6_init_Jx4a65c_init_da8c8 : GoodIn wsX6_init wsJx4a65c_init_da8c8 := goodIn_r _ [23, 24, 25, 26, 27, 28, 29, 30, 31, 32, 33, 34, 35, 2, 3, 59, 60, 61] (by decide +kernel) (by decide +kernel)
set_option maxRecDepth 20000 in
theorem gX6_init_Jx4a65c_init_da8c8 : GoodIn wsX6_init (wsJx4a65c_init_da8c8) := ggX6_init_Jx4a65c_init_da8c8
set_option maxRecDepth 20000 in
theorem ggX6_init_X4_init : GoodIn wsX6_init wsX4_init := goodIn_r _ [37, 38, 2, 3, 39, 40, 41, 62, 63, 64] (by decide +kernel) (by decide +kernel)
set_option maxRecDepth 20000 in
theorem gX6_init_X4_init_n44 : GoodIn wsX6_init (wsX4_init) := ggX6_init_X4_init
set_option maxRecDepth 20000 in
theorem ggX6_init_X3_init : GoodIn wsX6_init wsX3_init := goodIn_r _ [43, 44, 2, 3, 45, 46, 47, 48, 10, 11, 49, 50, 22, 23, 24, 25, 26, 27, 28, 29, 30, 31, 32, 33, 34, 35, 65, 66, 67, 59, 60, 61] (by decide +kernel) (by decide +kernel)
set_option maxRecDepth 20000 in
theorem gX6_init_X3_init_n45 : GoodIn wsX6_init (wsX3_init) := ggX6_init_X3_init
theorem dX6_init_0 : decode cX6_init 0 = .ok (.aload_n 0, 1) := by decide +kernel
theorem dX6_init_1 : decode cX6_init 1 = .ok (.invokespecial 1, 3) := by decide +kernel
theorem dX6_init_4 : decode cX6_init 4 = .ok (.aload_n 0, 1) := by decide +kernel
theorem dX6_init_5 : decode cX6_init 5 = .ok (.iconst 4, 1) := by decide +kernel
theorem dX6_init_6 : decode cX6_init 6 = .ok (.anewarray 9, 3) := by decide +kernel
theorem dX6_init_9 : decode cX6_init 9 = .ok (.putfield 11, 3) := by decide +kernel
theorem dX6_init_12 : decode cX6_init 12 = .ok (.aload_n 0, 1) := by decide +kernel
theorem dX6_init_13 : decode cX6_init 13 = .ok (.iconst 3, 1) := by decide +kernel
theorem dX6_init_14 : decode cX6_init 14 = .ok (.anewarray 15, 3) := by decide +kernel
theorem dX6_init_17 : decode cX6_init 17 = .ok (.putfield 17, 3) := by decide +kernel
theorem dX6_init_20 : decode cX6_init 20 = .ok (.aload_n 0, 1) := by decide +kernel
theorem dX6_init_21 : decode cX6_init 21 = .ok (.iconst 3, 1) := by decide +kernel
theorem dX6_init_22 : decode cX6_init 22 = .ok (.anewarray 15, 3) := by decide +kernel
theorem dX6_init_25 : decode cX6_init 25 = .ok (.putfield 21, 3) := by decide +kernel
theorem dX6_init_28 : decode cX6_init 28 = .ok (.aload_n 0, 1) := by decide +kernel
theorem dX6_init_29 : decode cX6_init 29 = .ok (.new 24, 3) := by decide +kernel
theorem dX6_init_32 : decode cX6_init 32 = .ok (.dup, 1) := by decide +kernel
theorem dX6_init_33 : decode cX6_init 33 = .ok (.invokespecial 26, 3) := by decide +kernel
theorem dX6_init_36 : decode cX6_init 36 = .ok (.putfield 27, 3) := by decide +kernel
theorem dX6_init_39 : decode cX6_init 39 = .ok (.aload_n 0, 1) := by decide +kernel
theorem dX6_init_40 : decode cX6_init 40 = .ok (.new 24, 3) := by decide +kernel
theorem dX6_init_43 : decode cX6_init 43 = .ok (.dup, 1) := by decide +kernel
theorem dX6_init_44 : decode cX6_init 44 = .ok (.invokespecial 26, 3) := by decide +kernel
theorem dX6_init_47 : decode cX6_init 47 = .ok (.putfield 31, 3) := by decide +kernel
theorem dX6_init_50 : decode cX6_init 50 = .ok (.aload_n 0, 1) := by decide +kernel
theorem dX6_init_51 : decode cX6_init 51 = .ok (.iconst 0, 1) := by decide +kernel
theorem dX6_init_52 : decode cX6_init 52 = .ok (.putfield 34, 3) := by decide +kernel
theorem dX6_init_55 : decode cX6_init 55 = .ok (.aload_n 0, 1) := by decide +kernel
theorem dX6_init_56 : decode cX6_init 56 = .ok (.iconst (-1), 1) := by decide +kernel
theorem dX6_init_57 : decode cX6_init 57 = .ok (.putfield 38, 3) := by decide +kernel
theorem dX6_init_60 : decode cX6_init 60 = .ok (.aload_n 0, 1) := by decide +kernel
theorem dX6_init_61 : decode cX6_init 61 = .ok (.iconst 0, 1) := by decide +kernel
theorem dX6_init_62 : decode cX6_init 62 = .ok (.putfield 41, 3) := by decide +kernel
theorem dX6_init_65 : decode cX6_init 65 = .ok (.iconst 0, 1) := by decide +kernel
theorem dX6_init_66 : decode cX6_init 66 = .ok (.istore_n 1, 1) := by decide +kernel
theorem dX6_init_67 : decode cX6_init 67 = .ok (.iload_n 1, 1) := by decide +kernel
theorem dX6_init_68 : decode cX6_init 68 = .ok (.aload_n 0, 1) := by decide +kernel
theorem dX6_init_69 : decode cX6_init 69 = .ok (.getfield 11, 3) := by decide +kernel
theorem dX6_init_72 : decode cX6_init 72 = .ok (.arraylength, 1) := by decide +kernel
theorem dX6_init_73 : decode cX6_init 73 = .ok (.if_icmp .ge 22, 3) := by decide +kernel
theorem dX6_init_76 : decode cX6_init 76 = .ok (.aload_n 0, 1) := by decide +kernel
theorem dX6_init_77 : decode cX6_init 77 = .ok (.getfield 11, 3) := by decide +kernel
theorem dX6_init_80 : decode cX6_init 80 = .ok (.iload_n 1, 1) := by decide +kernel
theorem dX6_init_81 : decode cX6_init 81 = .ok (.new 9, 3) := by decide +kernel
theorem dX6_init_84 : decode cX6_init 84 = .ok (.dup, 1) := by decide +kernel
theorem dX6_init_85 : decode cX6_init 85 = .ok (.invokespecial 44, 3) := by decide +kernel
theorem dX6_init_88 : decode cX6_init 88 = .ok (.aastore, 1) := by decide +kernel
theorem dX6_init_89 : decode cX6_init 89 = .ok (.iinc 1 1, 3) := by decide +kernel
theorem dX6_init_92 : decode cX6_init 92 = .ok (.goto (-25), 3) := by decide +kernel
theorem dX6_init_95 : decode cX6_init 95 = .ok (.iconst 0, 1) := by decide +kernel
theorem dX6_init_96 : decode cX6_init 96 = .ok (.istore_n 1, 1) := by decide +kernel
theorem dX6_init_97 : decode cX6_init 97 = .ok (.iload_n 1, 1) := by decide +kernel
theorem dX6_init_98 : decode cX6_init 98 = .ok (.aload_n 0, 1) := by decide +kernel
theorem dX6_init_99 : decode cX6_init 99 = .ok (.getfield 17, 3) := by decide +kernel
theorem dX6_init_102 : decode cX6_init 102 = .ok (.arraylength, 1) := by decide +kernel
theorem dX6_init_103 : decode cX6_init 103 = .ok (.if_icmp .ge 22, 3) := by decide +kernel
theorem dX6_init_106 : decode cX6_init 106 = .ok (.aload_n 0, 1) := by decide +kernel
theorem dX6_init_107 : decode cX6_init 107 = .ok (.getfield 17, 3) := by decide +kernel
theorem dX6_init_110 : decode cX6_init 110 = .ok (.iload_n 1, 1) := by decide +kernel
theorem dX6_init_111 : decode cX6_init 111 = .ok (.new 15, 3) := by decide +kernel
theorem dX6_init_114 : decode cX6_init 114 = .ok (.dup, 1) := by decide +kernel
theorem dX6_init_115 : decode cX6_init 115 = .ok (.invokespecial 45, 3) := by decide +kernel
theorem dX6_init_118 : decode cX6_init 118 = .ok (.aastore, 1) := by decide +kernel
theorem dX6_init_119 : decode cX6_init 119 = .ok (.iinc 1 1, 3) := by decide +kernel
theorem dX6_init_122 : decode cX6_init 122 = .ok (.goto (-25), 3) := by decide +kernel
theorem dX6_init_125 : decode cX6_init 125 = .ok (.iconst 0, 1) := by decide +kernel
theorem dX6_init_126 : decode cX6_init 126 = .ok (.istore_n 1, 1) := by decide +kernel
theorem dX6_init_127 : decode cX6_init 127 = .ok (.iload_n 1, 1) := by decide +kernel
theorem dX6_init_128 : decode cX6_init 128 = .ok (.aload_n 0, 1) := by decide +kernel
theorem dX6_init_129 : decode cX6_init 129 = .ok (.getfield 21, 3) := by decide +kernel
theorem dX6_init_132 : decode cX6_init 132 = .ok (.arraylength, 1) := by decide +kernel
theorem dX6_init_133 : decode cX6_init 133 = .ok (.if_icmp .ge 22, 3) := by decide +kernel
theorem dX6_init_136 : decode cX6_init 136 = .ok (.aload_n 0, 1) := by decide +kernel
theorem dX6_init_137 : decode cX6_init 137 = .ok (.getfield 21, 3) := by decide +kernel
theorem dX6_init_140 : decode cX6_init 140 = .ok (.iload_n 1, 1) := by decide +kernel
theorem dX6_init_141 : decode cX6_init 141 = .ok (.new 15, 3) := by decide +kernel
theorem dX6_init_144 : decode cX6_init 144 = .ok (.dup, 1) := by decide +kernel
theorem dX6_init_145 : decode cX6_init 145 = .ok (.invokespecial 45, 3) := by decide +kernel
theorem dX6_init_148 : decode cX6_init 148 = .ok (.aastore, 1) := by decide +kernel
theorem dX6_init_149 : decode cX6_init 149 = .ok (.iinc 1 1, 3) := by decide +kernel
theorem dX6_init_152 : decode cX6_init 152 = .ok (.goto (-25), 3) := by decide +kernel
theorem dX6_init_155 : decode cX6_init 155 = .ok (.return_, 1) := by decide +kernel
set_option maxRecDepth 20000 in
theorem ggX6_open_X6_tabAt : GoodIn wsX6_open wsX6_tabAt := goodIn_ca (goodIn_r _ [12, 13, 14, 15, 172, 173, 174, 175, 176, 177, 178, 179] (by decide +kernel) (by decide +kernel)) (goodIn_sub (fun _ h => List.mem_cons_of_mem _ (List.mem_append_left _ (List.mem_append_right _ h))) (by decide +kernel))
set_option maxRecDepth 20000 in
theorem gX6_open_X6_tabAt : GoodIn wsX6_open (wsV RX6 46 RX6 yX6_tabAt wsX6_tabAt) := goodIn_app (goodIn_of _ (by decide +kernel)) ggX6_open_X6_tabAt
set_option maxRecDepth 20000 in
theorem ggX6_open_X6_requireInRange : GoodIn wsX6_open wsX6_requireInRange := goodIn_ca (goodIn_r _ [18, 19, 20] (by decide +kernel) (by decide +kernel)) (goodIn_sub (fun _ h => List.mem_cons_of_mem _ (List.mem_append_right _ h)) (by decide +kernel))
set_option maxRecDepth 20000 in
theorem gX6_open_X6_requireInRange : GoodIn wsX6_open (va_wsS RX6 50 yX6_requireInRange wsX6_requireInRange) := goodIn_app (goodIn_of _ (by decide +kernel)) ggX6_open_X6_requireInRange
set_option maxRecDepth 20000 in
theorem ggX6_open_X6_canOpen : GoodIn wsX6_open wsX6_canOpen := goodIn_r _ [24, 4, 3, 25, 26, 27, 28, 11, 29, 30, 31, 32, 33, 34, 35, 36, 37, 38, 39, 40, 15, 41, 42, 43, 44, 45, 46, 180, 181, 182, 172, 173, 174, 175, 176, 177, 178, 179, 183, 184, 185] (by decide +kernel) (by decide +kernel)
set_option maxRecDepth 20000 in
theorem gX6_open_X6_canOpen : GoodIn wsX6_open (wsV RX6 54 RX6 yX6_canOpen wsX6_canOpen) := goodIn_app (goodIn_of _ (by decide +kernel)) ggX6_open_X6_canOpen
set_option maxRecDepth 20000 in
theorem ggX6_open_X6_beginDueUpgrade : GoodIn wsX6_open wsX6_beginDueUpgrade := goodIn_r _ [50, 15, 5, 3, 4, 37, 38, 39, 11, 40, 41, 42, 43, 44, 45, 46, 51, 52, 53, 54, 7, 55, 56, 57, 58, 30, 25, 59, 60, 61, 31, 32, 33, 34, 35, 36, 62, 63, 64, 65, 66, 67, 68, 69, 70, 71, 72, 73, 74, 75, 76, 77, 78, 79, 80, 81, 82, 83, 84, 85, 86, 87, 88, 89, 90, 91, 92, 93, 94, 95, 96, 97, 98, 99, 100, 101, 102, 103, 104, 105, 106, 107, 108, 109, 110, 111, 112, 113, 114, 115, 116, 117, 118, 119, 120, 121, 122, 123, 124, 125, 126, 127, 128, 129, 130, 131, 132, 133, 134, 135, 136, 137, 138, 139, 140, 141, 142, 143, 144, 145, 146, 147, 148, 149, 150, 151, 152, 153, 154, 155, 156, 157, 158, 159, 160, 161, 162, 163, 164, 165, 166, 167, 168, 169, 170, 171, 172, 173, 174, 175, 176, 177, 178, 179, 180, 181, 182, 186, 187, 188, 189, 183, 184, 185, 190, 191, 192] (by decide +kernel) (by decide +kernel)
set_option maxRecDepth 20000 in
theorem gX6_open_X6_beginDueUpgrade : GoodIn wsX6_open (wsV RX6 74 RX6 yX6_beginDueUpgrade wsX6_beginDueUpgrade) := goodIn_app (goodIn_of _ (by decide +kernel)) ggX6_open_X6_beginDueUpgrade
theorem dX6_open_0 : decode cX6_open 0 = .ok (.aload_n 0, 1) := by decide +kernel
theorem dX6_open_1 : decode cX6_open 1 = .ok (.iload_n 1, 1) := by decide +kernel
theorem dX6_open_2 : decode cX6_open 2 = .ok (.invokevirtual 46, 3) := by decide +kernel
theorem dX6_open_5 : decode cX6_open 5 = .ok (.astore_n 3, 1) := by decide +kernel
theorem dX6_open_6 : decode cX6_open 6 = .ok (.iload_n 2, 1) := by decide +kernel
theorem dX6_open_7 : decode cX6_open 7 = .ok (.iconst 1, 1) := by decide +kernel
theorem dX6_open_8 : decode cX6_open 8 = .ok (.bipush 100, 2) := by decide +kernel
theorem dX6_open_10 : decode cX6_open 10 = .ok (.invokestatic 50, 3) := by decide +kernel
theorem dX6_open_13 : decode cX6_open 13 = .ok (.aload_n 0, 1) := by decide +kernel
theorem dX6_open_14 : decode cX6_open 14 = .ok (.aload_n 3, 1) := by decide +kernel
theorem dX6_open_15 : decode cX6_open 15 = .ok (.iload_n 2, 1) := by decide +kernel
theorem dX6_open_16 : decode cX6_open 16 = .ok (.invokevirtual 54, 3) := by decide +kernel
theorem dX6_open_19 : decode cX6_open 19 = .ok (.ifCond .ne 13, 3) := by decide +kernel
theorem dX6_open_22 : decode cX6_open 22 = .ok (.new 58, 3) := by decide +kernel
theorem dX6_open_25 : decode cX6_open 25 = .ok (.dup, 1) := by decide +kernel
theorem dX6_open_26 : decode cX6_open 26 = .ok (.ldc 60, 2) := by decide +kernel
theorem dX6_open_28 : decode cX6_open 28 = .ok (.invokespecial 62, 3) := by decide +kernel
theorem dX6_open_31 : decode cX6_open 31 = .ok (.athrow, 1) := by decide +kernel
theorem dX6_open_32 : decode cX6_open 32 = .ok (.iload_n 2, 1) := by decide +kernel
theorem dX6_open_33 : decode cX6_open 33 = .ok (.aload_n 0, 1) := by decide +kernel
theorem dX6_open_34 : decode cX6_open 34 = .ok (.getfield 34, 3) := by decide +kernel
theorem dX6_open_37 : decode cX6_open 37 = .ok (.if_icmp .ne 11, 3) := by decide +kernel
theorem dX6_open_40 : decode cX6_open 40 = .ok (.aload_n 3, 1) := by decide +kernel
theorem dX6_open_41 : decode cX6_open 41 = .ok (.iconst 1, 1) := by decide +kernel
theorem dX6_open_42 : decode cX6_open 42 = .ok (.putfield 65, 3) := by decide +kernel
theorem dX6_open_45 : decode cX6_open 45 = .ok (.goto 35, 3) := by decide +kernel
theorem dX6_open_48 : decode cX6_open 48 = .ok (.aload_n 3, 1) := by decide +kernel
theorem dX6_open_49 : decode cX6_open 49 = .ok (.iconst 3, 1) := by decide +kernel
theorem dX6_open_50 : decode cX6_open 50 = .ok (.putfield 65, 3) := by decide +kernel
theorem dX6_open_53 : decode cX6_open 53 = .ok (.aload_n 3, 1) := by decide +kernel
theorem dX6_open_54 : decode cX6_open 54 = .ok (.iload_n 2, 1) := by decide +kernel
theorem dX6_open_55 : decode cX6_open 55 = .ok (.putfield 68, 3) := by decide +kernel
theorem dX6_open_58 : decode cX6_open 58 = .ok (.aload_n 3, 1) := by decide +kernel
theorem dX6_open_59 : decode cX6_open 59 = .ok (.aload_n 0, 1) := by decide +kernel
theorem dX6_open_60 : decode cX6_open 60 = .ok (.getfield 41, 3) := by decide +kernel
theorem dX6_open_63 : decode cX6_open 63 = .ok (.putfield 71, 3) := by decide +kernel
theorem dX6_open_66 : decode cX6_open 66 = .ok (.aload_n 0, 1) := by decide +kernel
theorem dX6_open_67 : decode cX6_open 67 = .ok (.dup, 1) := by decide +kernel
theorem dX6_open_68 : decode cX6_open 68 = .ok (.getfield 41, 3) := by decide +kernel
theorem dX6_open_71 : decode cX6_open 71 = .ok (.iconst 1, 1) := by decide +kernel
theorem dX6_open_72 : decode cX6_open 72 = .ok (.iadd, 1) := by decide +kernel
theorem dX6_open_73 : decode cX6_open 73 = .ok (.putfield 41, 3) := by decide +kernel
theorem dX6_open_76 : decode cX6_open 76 = .ok (.aload_n 0, 1) := by decide +kernel
theorem dX6_open_77 : decode cX6_open 77 = .ok (.invokevirtual 74, 3) := by decide +kernel
theorem dX6_open_80 : decode cX6_open 80 = .ok (.aload_n 3, 1) := by decide +kernel
theorem dX6_open_81 : decode cX6_open 81 = .ok (.getfield 65, 3) := by decide +kernel
theorem dX6_open_84 : decode cX6_open 84 = .ok (.ireturn, 1) := by decide +kernel
set_option maxRecDepth 20000 in
theorem ggX6_close_X6_tabAt : GoodIn wsX6_close wsX6_tabAt := goodIn_ca (goodIn_r _ [11, 12, 13, 14, 200, 201, 202, 203, 204, 205, 206, 207] (by decide +kernel) (by decide +kernel)) (goodIn_sub (fun _ h => List.mem_cons_of_mem _ (List.mem_append_right _ h)) (by decide +kernel))
set_option maxRecDepth 20000 in
theorem gX6_close_X6_tabAt : GoodIn wsX6_close (wsV RX6 46 RX6 yX6_tabAt wsX6_tabAt) := goodIn_app (goodIn_of _ (by decide +kernel)) ggX6_close_X6_tabAt
set_option maxRecDepth 20000 in
theorem ggX6_close_X6_hasRoomAfter : GoodIn wsX6_close wsX6_hasRoomAfter := goodIn_r _ [18, 19, 20, 21, 10, 22, 4, 23, 24, 25, 26, 27, 28, 29, 30, 31, 32, 14, 3, 33, 34, 35, 36, 37, 38, 39, 40, 200, 201, 202, 203, 204, 205, 206, 207, 212, 213, 214, 197, 198, 199] (by decide +kernel) (by decide +kernel)
set_option maxRecDepth 20000 in
theorem gX6_close_X6_hasRoomAfter : GoodIn wsX6_close (wsV RX6 77 RX6 yX6_hasRoomAfter wsX6_hasRoomAfter) := goodIn_app (goodIn_of _ (by decide +kernel)) ggX6_close_X6_hasRoomAfter
set_option maxRecDepth 20000 in
theorem ggX6_close_Jx4a65c_size_8abf5 : GoodIn wsX6_close wsJx4a65c_size_8abf5 := goodIn_r _ [27, 28, 212, 213, 214] (by decide +kernel) (by decide +kernel)
set_option maxRecDepth 20000 in
theorem gX6_close_Jx4a65c_size_8abf5_f83Jx4a65c : GoodIn wsX6_close (va_wsF RX6 83 RJx4a65c ⟨"java/util/List", "size", "()I"⟩ yJx4a65c_size_8abf5 wsJx4a65c_size_8abf5) := goodIn_app (goodIn_of _ (by decide +kernel)) ggX6_close_Jx4a65c_size_8abf5
set_option maxRecDepth 20000 in
theorem ggX6_close_Jx4a65c_get_915e3 : GoodIn wsX6_close wsJx4a65c_get_915e3 := goodIn_r _ [44, 28, 45, 46, 47, 48, 49, 50, 51, 52, 53, 54, 55, 26, 56, 57, 212, 213, 214] (by decide +kernel) (by decide +kernel)
set_option maxRecDepth 20000 in
theorem gX6_close_Jx4a65c_get_915e3_f89Jx4a65c : GoodIn wsX6_close (va_wsF RX6 89 RJx4a65c ⟨"java/util/List", "get", "(I)Ljava/lang/Object;"⟩ yJx4a65c_get_915e3 wsJx4a65c_get_915e3) := goodIn_app (goodIn_of _ (by decide +kernel)) ggX6_close_Jx4a65c_get_915e3
set_option maxRecDepth 20000 in
theorem ggX6_close_X5_isPending : GoodIn wsX6_close wsX5_isPending := goodIn_r _ [62, 63, 208, 209, 210, 211] (by decide +kernel) (by decide +kernel)
set_option maxRecDepth 20000 in
theorem gX6_close_X5_isPending : GoodIn wsX6_close (wsV RX6 99 RX5 yX5_isPending wsX5_isPending) := goodIn_app (goodIn_of _ (by decide +kernel)) ggX6_close_X5_isPending
set_option maxRecDepth 20000 in
theorem ggX6_close_X6_giveUp : GoodIn wsX6_close wsX6_giveUp := goodIn_r _ [67, 68, 69, 70, 71, 72, 73, 10, 74, 75, 76, 77, 61, 78, 79, 80, 81, 82, 83, 84, 85, 86, 87, 88, 89, 90, 91, 26, 92, 93, 94, 57, 28, 95, 24, 25, 27, 96, 42, 43, 44, 45, 46, 47, 48, 49, 50, 51, 52, 53, 54, 55, 56, 97, 98, 99, 100, 101, 102, 103, 104, 105, 106, 107, 108, 109, 110, 111, 112, 113, 114, 115, 116, 117, 118, 119, 120, 121, 122, 123, 124, 125, 126, 127, 128, 129, 130, 131, 132, 133, 134, 135, 136, 137, 138, 139, 140, 141, 142, 143, 144, 145, 146, 147, 208, 209, 210, 211, 200, 201, 202, 203, 204, 205, 206, 207, 215, 216, 217, 212, 213, 214] (by decide +kernel) (by decide +kernel)
set_option maxRecDepth 20000 in
theorem gX6_close_X6_giveUp : GoodIn wsX6_close (wsV RX6 103 RX6 yX6_giveUp wsX6_giveUp) := goodIn_app (goodIn_of _ (by decide +kernel)) ggX6_close_X6_giveUp
set_option maxRecDepth 20000 in
theorem ggX6_close_X6_runFreed : GoodIn wsX6_close wsX6_runFreed := goodIn_r _ [151, 4, 5, 68, 23, 24, 25, 26, 27, 28, 41, 42, 43, 44, 45, 46, 47, 48, 49, 50, 51, 52, 53, 54, 55, 56, 57, 152, 153, 154, 10, 155, 58, 59, 60, 61, 62, 63, 156, 157, 158, 159, 79, 160, 161, 162, 163, 164, 69, 71, 70, 72, 73, 74, 75, 76, 77, 78, 80, 81, 82, 83, 84, 85, 86, 87, 88, 89, 90, 91, 92, 93, 94, 95, 96, 97, 98, 99, 100, 101, 102, 103, 104, 105, 106, 107, 108, 109, 110, 111, 112, 113, 114, 115, 116, 117, 118, 119, 120, 121, 122, 123, 124, 125, 126, 127, 128, 129, 130, 131, 132, 133, 134, 135, 136, 137, 138, 139, 140, 141, 142, 143, 144, 145, 146, 147, 200, 201, 202, 203, 204, 205, 206, 207, 208, 209, 210, 211, 212, 213, 214, 215, 216, 217] (by decide +kernel) (by decide +kernel)
set_option maxRecDepth 20000 in
theorem gX6_close_X6_runFreed : GoodIn wsX6_close (wsV RX6 107 RX6 yX6_runFreed wsX6_runFreed) := goodIn_app (goodIn_of _ (by decide +kernel)) ggX6_close_X6_runFreed
set_option maxRecDepth 20000 in
theorem ggX6_close_X6_leave : GoodIn wsX6_close wsX6_leave := goodIn_r _ [168, 3, 169, 170, 171, 172, 10, 173, 14, 33, 34, 174, 175, 176, 177, 35, 36, 37, 38, 39, 40, 178, 179, 180, 181, 182, 183, 184, 185, 186, 4, 187, 188, 61, 23, 24, 25, 26, 27, 28, 189, 190, 191, 192, 193, 194, 63, 195, 79, 160, 196, 98, 99, 100, 93, 94, 57, 101, 102, 103, 104, 105, 106, 107, 108, 109, 110, 111, 112, 113, 114, 115, 116, 117, 118, 119, 120, 121, 122, 123, 124, 125, 126, 127, 128, 129, 130, 131, 132, 133, 134, 135, 136, 137, 138, 139, 140, 141, 142, 143, 144, 145, 146, 147, 161, 162, 163, 164, 68, 69, 71, 70, 72, 73, 74, 75, 76, 77, 78, 80, 81, 82, 83, 84, 85, 86, 87, 88, 89, 90, 91, 92, 95, 96, 42, 43, 44, 45, 46, 47, 48, 49, 50, 51, 52, 53, 54, 55, 56, 97, 197, 198, 199, 200, 201, 202, 203, 204, 205, 206, 207, 208, 209, 210, 211, 212, 213, 214, 215, 216, 217] (by decide +kernel) (by decide +kernel)
set_option maxRecDepth 20000 in
theorem gX6_close_X6_leave : GoodIn wsX6_close (wsV RX6 110 RX6 yX6_leave wsX6_leave) := goodIn_app (goodIn_of _ (by decide +kernel)) ggX6_close_X6_leave
theorem dX6_close_0 : decode cX6_close 0 = .ok (.aload_n 0, 1) := by decide +kernel
theorem dX6_close_1 : decode cX6_close 1 = .ok (.iload_n 1, 1) := by decide +kernel
theorem dX6_close_2 : decode cX6_close 2 = .ok (.invokevirtual 46, 3) := by decide +kernel
theorem dX6_close_5 : decode cX6_close 5 = .ok (.astore_n 2, 1) := by decide +kernel
theorem dX6_close_6 : decode cX6_close 6 = .ok (.aload_n 2, 1) := by decide +kernel
theorem dX6_close_7 : decode cX6_close 7 = .ok (.getfield 65, 3) := by decide +kernel
theorem dX6_close_10 : decode cX6_close 10 = .ok (.ifCond .eq 11, 3) := by decide +kernel
theorem dX6_close_13 : decode cX6_close 13 = .ok (.aload_n 0, 1) := by decide +kernel
theorem dX6_close_14 : decode cX6_close 14 = .ok (.aload_n 2, 1) := by decide +kernel
theorem dX6_close_15 : decode cX6_close 15 = .ok (.invokevirtual 77, 3) := by decide +kernel
theorem dX6_close_18 : decode cX6_close 18 = .ok (.ifCond .ne 13, 3) := by decide +kernel
theorem dX6_close_21 : decode cX6_close 21 = .ok (.new 58, 3) := by decide +kernel
theorem dX6_close_24 : decode cX6_close 24 = .ok (.dup, 1) := by decide +kernel
theorem dX6_close_25 : decode cX6_close 25 = .ok (.ldc 81, 2) := by decide +kernel
theorem dX6_close_27 : decode cX6_close 27 = .ok (.invokespecial 62, 3) := by decide +kernel
theorem dX6_close_30 : decode cX6_close 30 = .ok (.athrow, 1) := by decide +kernel
theorem dX6_close_31 : decode cX6_close 31 = .ok (.aload_n 2, 1) := by decide +kernel
theorem dX6_close_32 : decode cX6_close 32 = .ok (.getfield 65, 3) := by decide +kernel
theorem dX6_close_35 : decode cX6_close 35 = .ok (.istore_n 3, 1) := by decide +kernel
theorem dX6_close_36 : decode cX6_close 36 = .ok (.aload_n 0, 1) := by decide +kernel
theorem dX6_close_37 : decode cX6_close 37 = .ok (.getfield 27, 3) := by decide +kernel
theorem dX6_close_40 : decode cX6_close 40 = .ok (.invokeinterface 83 1, 5) := by decide +kernel
theorem dX6_close_45 : decode cX6_close 45 = .ok (.iconst 1, 1) := by decide +kernel
theorem dX6_close_46 : decode cX6_close 46 = .ok (.isub, 1) := by decide +kernel
theorem dX6_close_47 : decode cX6_close 47 = .ok (.istore 4, 2) := by decide +kernel
theorem dX6_close_49 : decode cX6_close 49 = .ok (.iload 4, 2) := by decide +kernel
theorem dX6_close_51 : decode cX6_close 51 = .ok (.ifCond .lt 48, 3) := by decide +kernel
theorem dX6_close_54 : decode cX6_close 54 = .ok (.aload_n 0, 1) := by decide +kernel
theorem dX6_close_55 : decode cX6_close 55 = .ok (.getfield 27, 3) := by decide +kernel
theorem dX6_close_58 : decode cX6_close 58 = .ok (.iload 4, 2) := by decide +kernel
theorem dX6_close_60 : decode cX6_close 60 = .ok (.invokeinterface 89 2, 5) := by decide +kernel
theorem dX6_close_65 : decode cX6_close 65 = .ok (.checkcast 93, 3) := by decide +kernel
theorem dX6_close_68 : decode cX6_close 68 = .ok (.astore 5, 2) := by decide +kernel
theorem dX6_close_70 : decode cX6_close 70 = .ok (.aload 5, 2) := by decide +kernel
theorem dX6_close_72 : decode cX6_close 72 = .ok (.getfield 95, 3) := by decide +kernel
theorem dX6_close_75 : decode cX6_close 75 = .ok (.aload_n 2, 1) := by decide +kernel
theorem dX6_close_76 : decode cX6_close 76 = .ok (.if_acmp .ne 17, 3) := by decide +kernel
theorem dX6_close_79 : decode cX6_close 79 = .ok (.aload 5, 2) := by decide +kernel
theorem dX6_close_81 : decode cX6_close 81 = .ok (.invokevirtual 99, 3) := by decide +kernel
theorem dX6_close_84 : decode cX6_close 84 = .ok (.ifCond .eq 9, 3) := by decide +kernel
theorem dX6_close_87 : decode cX6_close 87 = .ok (.aload_n 0, 1) := by decide +kernel
theorem dX6_close_88 : decode cX6_close 88 = .ok (.aload 5, 2) := by decide +kernel
theorem dX6_close_90 : decode cX6_close 90 = .ok (.invokevirtual 103, 3) := by decide +kernel
theorem dX6_close_93 : decode cX6_close 93 = .ok (.iinc 4 (-1), 3) := by decide +kernel
theorem dX6_close_96 : decode cX6_close 96 = .ok (.goto (-47), 3) := by decide +kernel
theorem dX6_close_99 : decode cX6_close 99 = .ok (.aload_n 0, 1) := by decide +kernel
theorem dX6_close_100 : decode cX6_close 100 = .ok (.invokevirtual 107, 3) := by decide +kernel
theorem dX6_close_103 : decode cX6_close 103 = .ok (.pop, 1) := by decide +kernel
theorem dX6_close_104 : decode cX6_close 104 = .ok (.aload_n 0, 1) := by decide +kernel
theorem dX6_close_105 : decode cX6_close 105 = .ok (.aload_n 2, 1) := by decide +kernel
theorem dX6_close_106 : decode cX6_close 106 = .ok (.invokevirtual 110, 3) := by decide +kernel
theorem dX6_close_109 : decode cX6_close 109 = .ok (.iload_n 3, 1) := by decide +kernel
theorem dX6_close_110 : decode cX6_close 110 = .ok (.ireturn, 1) := by decide +kernel
set_option maxRecDepth 20000 in
theorem ggX6_state_X6_tabAt : GoodIn wsX6_state wsX6_tabAt := goodIn_ca (goodIn_r _ [6, 7, 8, 9, 13, 14, 15, 16, 17, 18, 19, 20] (by decide +kernel) (by decide +kernel)) (goodIn_sub (fun _ h => List.mem_cons_of_mem _ (List.mem_append_right _ h)) (by decide +kernel))
set_option maxRecDepth 20000 in
theorem gX6_state_X6_tabAt : GoodIn wsX6_state (wsV RX6 46 RX6 yX6_tabAt wsX6_tabAt) := goodIn_app (goodIn_of _ (by decide +kernel)) ggX6_state_X6_tabAt
theorem dX6_state_0 : decode cX6_state 0 = .ok (.aload_n 0, 1) := by decide +kernel
theorem dX6_state_1 : decode cX6_state 1 = .ok (.iload_n 1, 1) := by decide +kernel
theorem dX6_state_2 : decode cX6_state 2 = .ok (.invokevirtual 46, 3) := by decide +kernel
theorem dX6_state_5 : decode cX6_state 5 = .ok (.getfield 65, 3) := by decide +kernel
theorem dX6_state_8 : decode cX6_state 8 = .ok (.ireturn, 1) := by decide +kernel
theorem dX6_version_0 : decode cX6_version 0 = .ok (.aload_n 0, 1) := by decide +kernel
theorem dX6_version_1 : decode cX6_version 1 = .ok (.getfield 34, 3) := by decide +kernel
theorem dX6_version_4 : decode cX6_version 4 = .ok (.ireturn, 1) := by decide +kernel
theorem dX6_upgrade_0 : decode cX6_upgrade 0 = .ok (.aload_n 0, 1) := by decide +kernel
theorem dX6_upgrade_1 : decode cX6_upgrade 1 = .ok (.getfield 38, 3) := by decide +kernel
theorem dX6_upgrade_4 : decode cX6_upgrade 4 = .ok (.ireturn, 1) := by decide +kernel
set_option maxRecDepth 20000 in
theorem ggX6_makeStore_X6_transactionAt : GoodIn wsX6_makeStore wsX6_transactionAt := goodIn_ca (goodIn_r _ [11, 1, 2, 12, 13, 14, 15, 16, 17, 18, 19, 20, 21, 22, 23, 24, 25, 26, 27, 28, 29, 30, 31, 32, 33, 34, 35, 36, 42, 43, 44, 45, 46, 47, 48, 49, 53, 54, 55] (by decide +kernel) (by decide +kernel)) (goodIn_sub (fun _ h => List.mem_cons_of_mem _ (List.mem_append_left _ (List.mem_append_right _ h))) (by decide +kernel))
set_option maxRecDepth 20000 in
theorem gX6_makeStore_X6_transactionAt : GoodIn wsX6_makeStore (wsV RX6 114 RX6 yX6_transactionAt wsX6_transactionAt) := goodIn_app (goodIn_of _ (by decide +kernel)) ggX6_makeStore_X6_transactionAt
set_option maxRecDepth 20000 in
theorem ggX6_makeStore_X6_requireUpgrade : GoodIn wsX6_makeStore wsX6_requireUpgrade := goodIn_ca (goodIn_r _ [40, 3, 4, 41, 42, 43, 44, 45, 46, 47, 48, 49] (by decide +kernel) (by decide +kernel)) (goodIn_sub (fun _ h => List.mem_cons_of_mem _ (List.mem_append_right _ h)) (by decide +kernel))
set_option maxRecDepth 20000 in
theorem gX6_makeStore_X6_requireUpgrade : GoodIn wsX6_makeStore (wsV RX6 123 RX6 yX6_requireUpgrade wsX6_requireUpgrade) := goodIn_app (goodIn_of _ (by decide +kernel)) ggX6_makeStore_X6_requireUpgrade
theorem dX6_makeStore_0 : decode cX6_makeStore 0 = .ok (.aload_n 0, 1) := by decide +kernel
theorem dX6_makeStore_1 : decode cX6_makeStore 1 = .ok (.iload_n 1, 1) := by decide +kernel
theorem dX6_makeStore_2 : decode cX6_makeStore 2 = .ok (.invokevirtual 114, 3) := by decide +kernel
theorem dX6_makeStore_5 : decode cX6_makeStore 5 = .ok (.pop, 1) := by decide +kernel
theorem dX6_makeStore_6 : decode cX6_makeStore 6 = .ok (.iload_n 2, 1) := by decide +kernel
theorem dX6_makeStore_7 : decode cX6_makeStore 7 = .ok (.ifCond .lt 12, 3) := by decide +kernel
theorem dX6_makeStore_10 : decode cX6_makeStore 10 = .ok (.iload_n 2, 1) := by decide +kernel
theorem dX6_makeStore_11 : decode cX6_makeStore 11 = .ok (.aload_n 0, 1) := by decide +kernel
theorem dX6_makeStore_12 : decode cX6_makeStore 12 = .ok (.getfield 17, 3) := by decide +kernel
theorem dX6_makeStore_15 : decode cX6_makeStore 15 = .ok (.arraylength, 1) := by decide +kernel
theorem dX6_makeStore_16 : decode cX6_makeStore 16 = .ok (.if_icmp .lt 13, 3) := by decide +kernel
theorem dX6_makeStore_19 : decode cX6_makeStore 19 = .ok (.new 118, 3) := by decide +kernel
theorem dX6_makeStore_22 : decode cX6_makeStore 22 = .ok (.dup, 1) := by decide +kernel
theorem dX6_makeStore_23 : decode cX6_makeStore 23 = .ok (.ldc 120, 2) := by decide +kernel
theorem dX6_makeStore_25 : decode cX6_makeStore 25 = .ok (.invokespecial 122, 3) := by decide +kernel
theorem dX6_makeStore_28 : decode cX6_makeStore 28 = .ok (.athrow, 1) := by decide +kernel
theorem dX6_makeStore_29 : decode cX6_makeStore 29 = .ok (.aload_n 0, 1) := by decide +kernel
theorem dX6_makeStore_30 : decode cX6_makeStore 30 = .ok (.iload_n 1, 1) := by decide +kernel
theorem dX6_makeStore_31 : decode cX6_makeStore 31 = .ok (.invokevirtual 123, 3) := by decide +kernel
theorem dX6_makeStore_34 : decode cX6_makeStore 34 = .ok (.aload_n 0, 1) := by decide +kernel
theorem dX6_makeStore_35 : decode cX6_makeStore 35 = .ok (.getfield 17, 3) := by decide +kernel
theorem dX6_makeStore_38 : decode cX6_makeStore 38 = .ok (.iload_n 2, 1) := by decide +kernel
theorem dX6_makeStore_39 : decode cX6_makeStore 39 = .ok (.aaload, 1) := by decide +kernel
theorem dX6_makeStore_40 : decode cX6_makeStore 40 = .ok (.astore_n 3, 1) := by decide +kernel
theorem dX6_makeStore_41 : decode cX6_makeStore 41 = .ok (.aload_n 3, 1) := by decide +kernel
theorem dX6_makeStore_42 : decode cX6_makeStore 42 = .ok (.getfield 127, 3) := by decide +kernel
theorem dX6_makeStore_45 : decode cX6_makeStore 45 = .ok (.ifCond .eq 13, 3) := by decide +kernel
theorem dX6_makeStore_48 : decode cX6_makeStore 48 = .ok (.new 58, 3) := by decide +kernel
theorem dX6_makeStore_51 : decode cX6_makeStore 51 = .ok (.dup, 1) := by decide +kernel
theorem dX6_makeStore_52 : decode cX6_makeStore 52 = .ok (.ldc 131, 2) := by decide +kernel
theorem dX6_makeStore_54 : decode cX6_makeStore 54 = .ok (.invokespecial 62, 3) := by decide +kernel
theorem dX6_makeStore_57 : decode cX6_makeStore 57 = .ok (.athrow, 1) := by decide +kernel
theorem dX6_makeStore_58 : decode cX6_makeStore 58 = .ok (.aload_n 3, 1) := by decide +kernel
theorem dX6_makeStore_59 : decode cX6_makeStore 59 = .ok (.iconst 1, 1) := by decide +kernel
theorem dX6_makeStore_60 : decode cX6_makeStore 60 = .ok (.putfield 127, 3) := by decide +kernel
theorem dX6_makeStore_63 : decode cX6_makeStore 63 = .ok (.return_, 1) := by decide +kernel
set_option maxRecDepth 20000 in
theorem ggX6_deleteStore_X6_transactionAt : GoodIn wsX6_deleteStore wsX6_transactionAt := goodIn_ca (goodIn_r _ [5, 6, 7, 8, 9, 10, 11, 12, 13, 14, 15, 16, 17, 18, 19, 20, 21, 22, 23, 24, 25, 26, 27, 28, 29, 30, 31, 32, 65, 66, 67, 68, 69, 70, 71, 72, 73, 74, 75] (by decide +kernel) (by decide +kernel)) (goodIn_sub (fun _ h => List.mem_cons_of_mem _ (List.mem_append_left _ (List.mem_append_right _ h))) (by decide +kernel))
set_option maxRecDepth 20000 in
theorem gX6_deleteStore_X6_transactionAt : GoodIn wsX6_deleteStore (wsV RX6 114 RX6 yX6_transactionAt wsX6_transactionAt) := goodIn_app (goodIn_of _ (by decide +kernel)) ggX6_deleteStore_X6_transactionAt
set_option maxRecDepth 20000 in
theorem ggX6_deleteStore_X6_storeAt : GoodIn wsX6_deleteStore wsX6_storeAt := goodIn_ca (goodIn_r _ [36, 6, 7, 37, 38, 65, 66, 67, 68, 69, 70, 71, 72, 76, 77, 78] (by decide +kernel) (by decide +kernel)) (goodIn_sub (fun _ h => List.mem_cons_of_mem _ (List.mem_append_left _ (List.mem_append_right _ h))) (by decide +kernel))
set_option maxRecDepth 20000 in
theorem gX6_deleteStore_X6_storeAt : GoodIn wsX6_deleteStore (wsV RX6 133 RX6 yX6_storeAt wsX6_storeAt) := goodIn_app (goodIn_of _ (by decide +kernel)) ggX6_deleteStore_X6_storeAt
set_option maxRecDepth 20000 in
theorem ggX6_deleteStore_X6_requireUpgrade : GoodIn wsX6_deleteStore wsX6_requireUpgrade := goodIn_ca (goodIn_r _ [42, 43, 44, 45, 65, 66, 67, 68, 69, 70, 71, 72] (by decide +kernel) (by decide +kernel)) (goodIn_sub (fun _ h => List.mem_cons_of_mem _ (List.mem_append_right _ h)) (by decide +kernel))
set_option maxRecDepth 20000 in
theorem gX6_deleteStore_X6_requireUpgrade : GoodIn wsX6_deleteStore (wsV RX6 123 RX6 yX6_requireUpgrade wsX6_requireUpgrade) := goodIn_app (goodIn_of _ (by decide +kernel)) ggX6_deleteStore_X6_requireUpgrade
set_option maxRecDepth 20000 in
theorem ggX6_deleteStore_X3_size : GoodIn wsX6_deleteStore wsX3_size := goodIn_r _ [50, 51, 52, 11, 12, 13, 14, 15, 76, 77, 78, 73, 74, 75] (by decide +kernel) (by decide +kernel)
set_option maxRecDepth 20000 in
theorem gX6_deleteStore_X3_size : GoodIn wsX6_deleteStore (wsV RX6 137 RX3 yX3_size wsX3_size) := goodIn_app (goodIn_of _ (by decide +kernel)) ggX6_deleteStore_X3_size
set_option maxRecDepth 20000 in
theorem ggX6_deleteStore_X3_wipe : GoodIn wsX6_deleteStore wsX3_wipe := goodIn_r _ [56, 57, 51, 58, 59, 60, 61, 13, 62, 63, 64, 32, 15, 76, 77, 78, 73, 74, 75] (by decide +kernel) (by decide +kernel)
set_option maxRecDepth 20000 in
theorem gX6_deleteStore_X3_wipe : GoodIn wsX6_deleteStore (wsV RX6 138 RX3 yX3_wipe wsX3_wipe) := goodIn_app (goodIn_of _ (by decide +kernel)) ggX6_deleteStore_X3_wipe
theorem dX6_deleteStore_0 : decode cX6_deleteStore 0 = .ok (.aload_n 0, 1) := by decide +kernel
theorem dX6_deleteStore_1 : decode cX6_deleteStore 1 = .ok (.iload_n 1, 1) := by decide +kernel
theorem dX6_deleteStore_2 : decode cX6_deleteStore 2 = .ok (.invokevirtual 114, 3) := by decide +kernel
theorem dX6_deleteStore_5 : decode cX6_deleteStore 5 = .ok (.pop, 1) := by decide +kernel
theorem dX6_deleteStore_6 : decode cX6_deleteStore 6 = .ok (.aload_n 0, 1) := by decide +kernel
theorem dX6_deleteStore_7 : decode cX6_deleteStore 7 = .ok (.iload_n 2, 1) := by decide +kernel
theorem dX6_deleteStore_8 : decode cX6_deleteStore 8 = .ok (.invokevirtual 133, 3) := by decide +kernel
theorem dX6_deleteStore_11 : decode cX6_deleteStore 11 = .ok (.astore_n 3, 1) := by decide +kernel
theorem dX6_deleteStore_12 : decode cX6_deleteStore 12 = .ok (.aload_n 0, 1) := by decide +kernel
theorem dX6_deleteStore_13 : decode cX6_deleteStore 13 = .ok (.iload_n 1, 1) := by decide +kernel
theorem dX6_deleteStore_14 : decode cX6_deleteStore 14 = .ok (.invokevirtual 123, 3) := by decide +kernel
theorem dX6_deleteStore_17 : decode cX6_deleteStore 17 = .ok (.aload_n 3, 1) := by decide +kernel
theorem dX6_deleteStore_18 : decode cX6_deleteStore 18 = .ok (.invokevirtual 137, 3) := by decide +kernel
theorem dX6_deleteStore_21 : decode cX6_deleteStore 21 = .ok (.istore 4, 2) := by decide +kernel
theorem dX6_deleteStore_23 : decode cX6_deleteStore 23 = .ok (.aload_n 3, 1) := by decide +kernel
theorem dX6_deleteStore_24 : decode cX6_deleteStore 24 = .ok (.invokevirtual 138, 3) := by decide +kernel
theorem dX6_deleteStore_27 : decode cX6_deleteStore 27 = .ok (.iload 4, 2) := by decide +kernel
theorem dX6_deleteStore_29 : decode cX6_deleteStore 29 = .ok (.ireturn, 1) := by decide +kernel
set_option maxRecDepth 20000 in
theorem ggX6_makeIndex_X6_transactionAt : GoodIn wsX6_makeIndex wsX6_transactionAt := goodIn_ca (goodIn_r _ [9, 1, 2, 10, 11, 12, 13, 14, 15, 16, 17, 18, 19, 20, 21, 22, 23, 24, 25, 26, 27, 28, 29, 30, 31, 32, 33, 34, 76, 77, 78, 79, 80, 81, 82, 83, 84, 85, 86] (by decide +kernel) (by decide +kernel)) (goodIn_sub (fun _ h => List.mem_cons_of_mem _ (List.mem_append_left _ (List.mem_append_right _ h))) (by decide +kernel))
set_option maxRecDepth 20000 in
theorem gX6_makeIndex_X6_transactionAt : GoodIn wsX6_makeIndex (wsV RX6 114 RX6 yX6_transactionAt wsX6_transactionAt) := goodIn_app (goodIn_of _ (by decide +kernel)) ggX6_makeIndex_X6_transactionAt
set_option maxRecDepth 20000 in
theorem ggX6_makeIndex_X6_storeAt : GoodIn wsX6_makeIndex wsX6_storeAt := goodIn_ca (goodIn_r _ [38, 1, 2, 39, 40, 76, 77, 78, 79, 80, 81, 82, 83, 87, 88, 89] (by decide +kernel) (by decide +kernel)) (goodIn_sub (fun _ h => List.mem_cons_of_mem _ (List.mem_append_left _ (List.mem_append_right _ h))) (by decide +kernel))
set_option maxRecDepth 20000 in
theorem gX6_makeIndex_X6_storeAt : GoodIn wsX6_makeIndex (wsV RX6 133 RX6 yX6_storeAt wsX6_storeAt) := goodIn_app (goodIn_of _ (by decide +kernel)) ggX6_makeIndex_X6_storeAt
set_option maxRecDepth 20000 in
theorem ggX6_makeIndex_X6_requireUpgrade : GoodIn wsX6_makeIndex wsX6_requireUpgrade := goodIn_ca (goodIn_r _ [44, 3, 4, 45, 76, 77, 78, 79, 80, 81, 82, 83] (by decide +kernel) (by decide +kernel)) (goodIn_sub (fun _ h => List.mem_cons_of_mem _ (List.mem_append_right _ h)) (by decide +kernel))
set_option maxRecDepth 20000 in
theorem gX6_makeIndex_X6_requireUpgrade : GoodIn wsX6_makeIndex (wsV RX6 123 RX6 yX6_requireUpgrade wsX6_requireUpgrade) := goodIn_app (goodIn_of _ (by decide +kernel)) ggX6_makeIndex_X6_requireUpgrade
set_option maxRecDepth 20000 in
theorem ggX6_makeIndex_X3_hasIndex : GoodIn wsX6_makeIndex wsX3_hasIndex := goodIn_r _ [50, 51, 87, 88, 89] (by decide +kernel) (by decide +kernel)
set_option maxRecDepth 20000 in
theorem gX6_makeIndex_X3_hasIndex : GoodIn wsX6_makeIndex (wsV RX6 143 RX3 yX3_hasIndex wsX3_hasIndex) := goodIn_app (goodIn_of _ (by decide +kernel)) ggX6_makeIndex_X3_hasIndex
set_option maxRecDepth 20000 in
theorem ggX6_makeIndex_X3_hasDoubles : GoodIn wsX6_makeIndex wsX3_hasDoubles := goodIn_r _ [55, 56, 57, 58, 13, 14, 15, 16, 17, 59, 19, 20, 21, 22, 23, 24, 25, 26, 27, 28, 29, 30, 31, 32, 33, 34, 60, 61, 62, 49, 63, 64, 65, 66, 67, 68, 69, 70, 71, 87, 88, 89, 84, 85, 86, 90, 91, 92, 93] (by decide +kernel) (by decide +kernel)
set_option maxRecDepth 20000 in
theorem gX6_makeIndex_X3_hasDoubles : GoodIn wsX6_makeIndex (wsV RX6 147 RX3 yX3_hasDoubles wsX3_hasDoubles) := goodIn_app (goodIn_of _ (by decide +kernel)) ggX6_makeIndex_X3_hasDoubles
set_option maxRecDepth 20000 in
theorem ggX6_makeIndex_X3_addIndex : GoodIn wsX6_makeIndex wsX3_addIndex := goodIn_r _ [75, 51, 87, 88, 89] (by decide +kernel) (by decide +kernel)
set_option maxRecDepth 20000 in
theorem gX6_makeIndex_X3_addIndex : GoodIn wsX6_makeIndex (wsV RX6 152 RX3 yX3_addIndex wsX3_addIndex) := goodIn_app (goodIn_of _ (by decide +kernel)) ggX6_makeIndex_X3_addIndex
theorem dX6_makeIndex_0 : decode cX6_makeIndex 0 = .ok (.aload_n 0, 1) := by decide +kernel
theorem dX6_makeIndex_1 : decode cX6_makeIndex 1 = .ok (.iload_n 1, 1) := by decide +kernel
theorem dX6_makeIndex_2 : decode cX6_makeIndex 2 = .ok (.invokevirtual 114, 3) := by decide +kernel
theorem dX6_makeIndex_5 : decode cX6_makeIndex 5 = .ok (.pop, 1) := by decide +kernel
theorem dX6_makeIndex_6 : decode cX6_makeIndex 6 = .ok (.aload_n 0, 1) := by decide +kernel
theorem dX6_makeIndex_7 : decode cX6_makeIndex 7 = .ok (.iload_n 2, 1) := by decide +kernel
theorem dX6_makeIndex_8 : decode cX6_makeIndex 8 = .ok (.invokevirtual 133, 3) := by decide +kernel
theorem dX6_makeIndex_11 : decode cX6_makeIndex 11 = .ok (.astore 5, 2) := by decide +kernel
theorem dX6_makeIndex_13 : decode cX6_makeIndex 13 = .ok (.iload_n 3, 1) := by decide +kernel
theorem dX6_makeIndex_14 : decode cX6_makeIndex 14 = .ok (.ifCond .lt 8, 3) := by decide +kernel
theorem dX6_makeIndex_17 : decode cX6_makeIndex 17 = .ok (.iload_n 3, 1) := by decide +kernel
theorem dX6_makeIndex_18 : decode cX6_makeIndex 18 = .ok (.iconst 2, 1) := by decide +kernel
theorem dX6_makeIndex_19 : decode cX6_makeIndex 19 = .ok (.if_icmp .lt 13, 3) := by decide +kernel
theorem dX6_makeIndex_22 : decode cX6_makeIndex 22 = .ok (.new 118, 3) := by decide +kernel
theorem dX6_makeIndex_25 : decode cX6_makeIndex 25 = .ok (.dup, 1) := by decide +kernel
theorem dX6_makeIndex_26 : decode cX6_makeIndex 26 = .ok (.ldc 141, 2) := by decide +kernel
theorem dX6_makeIndex_28 : decode cX6_makeIndex 28 = .ok (.invokespecial 122, 3) := by decide +kernel
theorem dX6_makeIndex_31 : decode cX6_makeIndex 31 = .ok (.athrow, 1) := by decide +kernel
theorem dX6_makeIndex_32 : decode cX6_makeIndex 32 = .ok (.aload_n 0, 1) := by decide +kernel
theorem dX6_makeIndex_33 : decode cX6_makeIndex 33 = .ok (.iload_n 1, 1) := by decide +kernel
theorem dX6_makeIndex_34 : decode cX6_makeIndex 34 = .ok (.invokevirtual 123, 3) := by decide +kernel
theorem dX6_makeIndex_37 : decode cX6_makeIndex 37 = .ok (.aload 5, 2) := by decide +kernel
theorem dX6_makeIndex_39 : decode cX6_makeIndex 39 = .ok (.iload_n 3, 1) := by decide +kernel
theorem dX6_makeIndex_40 : decode cX6_makeIndex 40 = .ok (.invokevirtual 143, 3) := by decide +kernel
theorem dX6_makeIndex_43 : decode cX6_makeIndex 43 = .ok (.ifCond .ne 17, 3) := by decide +kernel
theorem dX6_makeIndex_46 : decode cX6_makeIndex 46 = .ok (.iload 4, 2) := by decide +kernel
theorem dX6_makeIndex_48 : decode cX6_makeIndex 48 = .ok (.ifCond .eq 22, 3) := by decide +kernel
theorem dX6_makeIndex_51 : decode cX6_makeIndex 51 = .ok (.aload 5, 2) := by decide +kernel
theorem dX6_makeIndex_53 : decode cX6_makeIndex 53 = .ok (.iload_n 3, 1) := by decide +kernel
theorem dX6_makeIndex_54 : decode cX6_makeIndex 54 = .ok (.invokevirtual 147, 3) := by decide +kernel
theorem dX6_makeIndex_57 : decode cX6_makeIndex 57 = .ok (.ifCond .eq 13, 3) := by decide +kernel
theorem dX6_makeIndex_60 : decode cX6_makeIndex 60 = .ok (.new 58, 3) := by decide +kernel
theorem dX6_makeIndex_63 : decode cX6_makeIndex 63 = .ok (.dup, 1) := by decide +kernel
theorem dX6_makeIndex_64 : decode cX6_makeIndex 64 = .ok (.ldc 150, 2) := by decide +kernel
theorem dX6_makeIndex_66 : decode cX6_makeIndex 66 = .ok (.invokespecial 62, 3) := by decide +kernel
theorem dX6_makeIndex_69 : decode cX6_makeIndex 69 = .ok (.athrow, 1) := by decide +kernel
theorem dX6_makeIndex_70 : decode cX6_makeIndex 70 = .ok (.aload 5, 2) := by decide +kernel
theorem dX6_makeIndex_72 : decode cX6_makeIndex 72 = .ok (.iload_n 3, 1) := by decide +kernel
theorem dX6_makeIndex_73 : decode cX6_makeIndex 73 = .ok (.iload 4, 2) := by decide +kernel
theorem dX6_makeIndex_75 : decode cX6_makeIndex 75 = .ok (.invokevirtual 152, 3) := by decide +kernel
theorem dX6_makeIndex_78 : decode cX6_makeIndex 78 = .ok (.return_, 1) := by decide +kernel
set_option maxRecDepth 20000 in
theorem ggX6_begin_X6_tabAt : GoodIn wsX6_begin wsX6_tabAt := goodIn_ca (goodIn_r _ [14, 1, 2, 15, 167, 168, 169, 170, 171, 172, 173, 174] (by decide +kernel) (by decide +kernel)) (goodIn_sub (fun _ h => List.mem_cons_of_mem _ (List.mem_append_left _ (List.mem_append_left _ (List.mem_append_right _ h)))) (by decide +kernel))
set_option maxRecDepth 20000 in
theorem gX6_begin_X6_tabAt : GoodIn wsX6_begin (wsV RX6 46 RX6 yX6_tabAt wsX6_tabAt) := goodIn_app (goodIn_of _ (by decide +kernel)) ggX6_begin_X6_tabAt
set_option maxRecDepth 20000 in
theorem ggX6_begin_X6_areThere : GoodIn wsX6_begin wsX6_areThere := goodIn_r _ [19, 20, 21, 167, 168, 169, 170, 171, 172, 173, 174, 179, 180, 181] (by decide +kernel) (by decide +kernel)
set_option maxRecDepth 20000 in
theorem gX6_begin_X6_areThere : GoodIn wsX6_begin (wsV RX6 156 RX6 yX6_areThere wsX6_areThere) := goodIn_app (goodIn_of _ (by decide +kernel)) ggX6_begin_X6_areThere
set_option maxRecDepth 20000 in
theorem ggX6_begin_X6_requireInRange : GoodIn wsX6_begin wsX6_requireInRange := goodIn_ca (goodIn_r _ [24, 25, 26] (by decide +kernel) (by decide +kernel)) (goodIn_sub (fun _ h => List.mem_cons_of_mem _ (List.mem_append_right _ h)) (by decide +kernel))
set_option maxRecDepth 20000 in
theorem gX6_begin_X6_requireInRange : GoodIn wsX6_begin (va_wsS RX6 50 yX6_requireInRange wsX6_requireInRange) := goodIn_app (goodIn_of _ (by decide +kernel)) ggX6_begin_X6_requireInRange
set_option maxRecDepth 20000 in
theorem ggX6_begin_X6_hasRoom : GoodIn wsX6_begin wsX6_hasRoom := goodIn_r _ [30, 6, 31, 32, 33, 34, 35, 36, 167, 168, 169, 170, 171, 172, 173, 174, 182, 183, 184] (by decide +kernel) (by decide +kernel)
set_option maxRecDepth 20000 in
theorem gX6_begin_X6_hasRoom : GoodIn wsX6_begin (wsV RX6 161 RX6 yX6_hasRoom wsX6_hasRoom) := goodIn_app (goodIn_of _ (by decide +kernel)) ggX6_begin_X6_hasRoom
set_option maxRecDepth 20000 in
theorem ggX6_begin_Jx4a65c_size_8abf5 : GoodIn wsX6_begin wsJx4a65c_size_8abf5 := goodIn_r _ [35, 36, 182, 183, 184] (by decide +kernel) (by decide +kernel)
set_option maxRecDepth 20000 in
theorem gX6_begin_Jx4a65c_size_8abf5_f83Jx4a65c : GoodIn wsX6_begin (va_wsF RX6 83 RJx4a65c ⟨"java/util/List", "size", "()I"⟩ yJx4a65c_size_8abf5 wsJx4a65c_size_8abf5) := goodIn_app (goodIn_of _ (by decide +kernel)) ggX6_begin_Jx4a65c_size_8abf5
set_option maxRecDepth 20000 in
theorem ggX6_begin_X5_init : GoodIn wsX6_begin wsX5_init := goodIn_r _ [39, 40, 41, 42, 43, 44, 45, 46, 175, 176, 177, 178] (by decide +kernel) (by decide +kernel)
set_option maxRecDepth 20000 in
theorem gX6_begin_X5_init : GoodIn wsX6_begin (wsX5_init) := ggX6_begin_X5_init
set_option maxRecDepth 20000 in
theorem ggX6_begin_Jx4a65c_add_9ea2d : GoodIn wsX6_begin wsJx4a65c_add_9ea2d := goodIn_r _ [50, 51, 52, 53, 36, 54, 55, 56, 34, 57, 58, 59, 60, 61, 62, 63, 64, 65, 66, 67, 68, 69, 70, 71, 72, 73, 74, 75, 76, 77, 78, 79, 80, 81, 82, 83, 84, 85, 86, 87, 88, 89, 90, 91, 92, 93, 94, 95, 96, 97, 98, 99, 100, 182, 183, 184] (by decide +kernel) (by decide +kernel)
set_option maxRecDepth 20000 in
theorem gX6_begin_Jx4a65c_add_9ea2d_f169Jx4a65c : GoodIn wsX6_begin (va_wsF RX6 169 RJx4a65c ⟨"java/util/List", "add", "(Ljava/lang/Object;)Z"⟩ yJx4a65c_add_9ea2d wsJx4a65c_add_9ea2d) := goodIn_app (goodIn_of _ (by decide +kernel)) ggX6_begin_Jx4a65c_add_9ea2d
set_option maxRecDepth 20000 in
theorem ggX6_begin_X6_runFreed : GoodIn wsX6_begin wsX6_runFreed := goodIn_r _ [104, 6, 105, 106, 31, 32, 33, 34, 35, 36, 107, 108, 109, 110, 111, 112, 113, 114, 115, 116, 117, 118, 119, 120, 121, 122, 53, 123, 124, 125, 13, 126, 127, 128, 129, 9, 130, 43, 131, 132, 133, 134, 45, 46, 135, 136, 137, 138, 139, 20, 140, 141, 142, 143, 144, 145, 146, 147, 148, 149, 150, 151, 152, 153, 154, 155, 156, 157, 158, 159, 160, 51, 52, 161, 162, 163, 48, 49, 50, 54, 55, 56, 57, 58, 59, 60, 61, 62, 63, 64, 65, 66, 67, 68, 69, 70, 71, 72, 73, 74, 75, 76, 77, 78, 79, 80, 81, 82, 83, 84, 85, 86, 87, 88, 89, 90, 91, 92, 93, 94, 95, 96, 97, 98, 99, 100, 167, 168, 169, 170, 171, 172, 173, 174, 175, 176, 177, 178, 182, 183, 184, 179, 180, 181] (by decide +kernel) (by decide +kernel)
set_option maxRecDepth 20000 in
theorem gX6_begin_X6_runFreed : GoodIn wsX6_begin (wsV RX6 107 RX6 yX6_runFreed wsX6_runFreed) := goodIn_app (goodIn_of _ (by decide +kernel)) ggX6_begin_X6_runFreed
theorem dX6_begin_0 : decode cX6_begin 0 = .ok (.aload_n 0, 1) := by decide +kernel
theorem dX6_begin_1 : decode cX6_begin 1 = .ok (.iload_n 1, 1) := by decide +kernel
theorem dX6_begin_2 : decode cX6_begin 2 = .ok (.invokevirtual 46, 3) := by decide +kernel
theorem dX6_begin_5 : decode cX6_begin 5 = .ok (.astore 4, 2) := by decide +kernel
theorem dX6_begin_7 : decode cX6_begin 7 = .ok (.iload_n 2, 1) := by decide +kernel
theorem dX6_begin_8 : decode cX6_begin 8 = .ok (.iconst 1, 1) := by decide +kernel
theorem dX6_begin_9 : decode cX6_begin 9 = .ok (.if_icmp .lt 27, 3) := by decide +kernel
theorem dX6_begin_12 : decode cX6_begin 12 = .ok (.iload_n 2, 1) := by decide +kernel
theorem dX6_begin_13 : decode cX6_begin 13 = .ok (.bipush 7, 2) := by decide +kernel
theorem dX6_begin_15 : decode cX6_begin 15 = .ok (.if_icmp .gt 21, 3) := by decide +kernel
theorem dX6_begin_18 : decode cX6_begin 18 = .ok (.aload_n 0, 1) := by decide +kernel
theorem dX6_begin_19 : decode cX6_begin 19 = .ok (.iload_n 2, 1) := by decide +kernel
theorem dX6_begin_20 : decode cX6_begin 20 = .ok (.invokevirtual 156, 3) := by decide +kernel
theorem dX6_begin_23 : decode cX6_begin 23 = .ok (.ifCond .ne 13, 3) := by decide +kernel
theorem dX6_begin_26 : decode cX6_begin 26 = .ok (.new 118, 3) := by decide +kernel
theorem dX6_begin_29 : decode cX6_begin 29 = .ok (.dup, 1) := by decide +kernel
theorem dX6_begin_30 : decode cX6_begin 30 = .ok (.ldc 159, 2) := by decide +kernel
theorem dX6_begin_32 : decode cX6_begin 32 = .ok (.invokespecial 122, 3) := by decide +kernel
theorem dX6_begin_35 : decode cX6_begin 35 = .ok (.athrow, 1) := by decide +kernel
theorem dX6_begin_36 : decode cX6_begin 36 = .ok (.iload_n 2, 1) := by decide +kernel
theorem dX6_begin_37 : decode cX6_begin 37 = .ok (.iconst 1, 1) := by decide +kernel
theorem dX6_begin_38 : decode cX6_begin 38 = .ok (.bipush 7, 2) := by decide +kernel
theorem dX6_begin_40 : decode cX6_begin 40 = .ok (.invokestatic 50, 3) := by decide +kernel
theorem dX6_begin_43 : decode cX6_begin 43 = .ok (.aload 4, 2) := by decide +kernel
theorem dX6_begin_45 : decode cX6_begin 45 = .ok (.getfield 65, 3) := by decide +kernel
theorem dX6_begin_48 : decode cX6_begin 48 = .ok (.iconst 1, 1) := by decide +kernel
theorem dX6_begin_49 : decode cX6_begin 49 = .ok (.if_icmp .ne 10, 3) := by decide +kernel
theorem dX6_begin_52 : decode cX6_begin 52 = .ok (.aload_n 0, 1) := by decide +kernel
theorem dX6_begin_53 : decode cX6_begin 53 = .ok (.invokevirtual 161, 3) := by decide +kernel
theorem dX6_begin_56 : decode cX6_begin 56 = .ok (.ifCond .ne 13, 3) := by decide +kernel
theorem dX6_begin_59 : decode cX6_begin 59 = .ok (.new 58, 3) := by decide +kernel
theorem dX6_begin_62 : decode cX6_begin 62 = .ok (.dup, 1) := by decide +kernel
theorem dX6_begin_63 : decode cX6_begin 63 = .ok (.ldc 164, 2) := by decide +kernel
theorem dX6_begin_65 : decode cX6_begin 65 = .ok (.invokespecial 62, 3) := by decide +kernel
theorem dX6_begin_68 : decode cX6_begin 68 = .ok (.athrow, 1) := by decide +kernel
theorem dX6_begin_69 : decode cX6_begin 69 = .ok (.aload_n 0, 1) := by decide +kernel
theorem dX6_begin_70 : decode cX6_begin 70 = .ok (.getfield 27, 3) := by decide +kernel
theorem dX6_begin_73 : decode cX6_begin 73 = .ok (.invokeinterface 83 1, 5) := by decide +kernel
theorem dX6_begin_78 : decode cX6_begin 78 = .ok (.istore 5, 2) := by decide +kernel
theorem dX6_begin_80 : decode cX6_begin 80 = .ok (.aload_n 0, 1) := by decide +kernel
theorem dX6_begin_81 : decode cX6_begin 81 = .ok (.getfield 27, 3) := by decide +kernel
theorem dX6_begin_84 : decode cX6_begin 84 = .ok (.new 93, 3) := by decide +kernel
theorem dX6_begin_87 : decode cX6_begin 87 = .ok (.dup, 1) := by decide +kernel
theorem dX6_begin_88 : decode cX6_begin 88 = .ok (.aload 4, 2) := by decide +kernel
theorem dX6_begin_90 : decode cX6_begin 90 = .ok (.iload_n 2, 1) := by decide +kernel
theorem dX6_begin_91 : decode cX6_begin 91 = .ok (.iload_n 3, 1) := by decide +kernel
theorem dX6_begin_92 : decode cX6_begin 92 = .ok (.invokespecial 166, 3) := by decide +kernel
theorem dX6_begin_95 : decode cX6_begin 95 = .ok (.invokeinterface 169 2, 5) := by decide +kernel
theorem dX6_begin_100 : decode cX6_begin 100 = .ok (.pop, 1) := by decide +kernel
theorem dX6_begin_101 : decode cX6_begin 101 = .ok (.aload_n 0, 1) := by decide +kernel
theorem dX6_begin_102 : decode cX6_begin 102 = .ok (.invokevirtual 107, 3) := by decide +kernel
theorem dX6_begin_105 : decode cX6_begin 105 = .ok (.pop, 1) := by decide +kernel
theorem dX6_begin_106 : decode cX6_begin 106 = .ok (.iload 5, 2) := by decide +kernel
theorem dX6_begin_108 : decode cX6_begin 108 = .ok (.ireturn, 1) := by decide +kernel
set_option maxRecDepth 20000 in
theorem ggX6_standing_X6_transactionAt : GoodIn wsX6_standing wsX6_transactionAt := goodIn_ca (goodIn_r _ [6, 7, 8, 9, 10, 11, 12, 13, 14, 15, 16, 17, 18, 19, 20, 21, 22, 23, 24, 25, 26, 27, 28, 29, 30, 31, 32, 33, 38, 39, 40, 41, 42, 43, 44, 45, 46, 47, 48] (by decide +kernel) (by decide +kernel)) (goodIn_sub (fun _ h => List.mem_cons_of_mem _ (List.mem_append_right _ h)) (by decide +kernel))
set_option maxRecDepth 20000 in
theorem gX6_standing_X6_transactionAt : GoodIn wsX6_standing (wsV RX6 114 RX6 yX6_transactionAt wsX6_transactionAt) := goodIn_app (goodIn_of _ (by decide +kernel)) ggX6_standing_X6_transactionAt
theorem dX6_standing_0 : decode cX6_standing 0 = .ok (.aload_n 0, 1) := by decide +kernel
theorem dX6_standing_1 : decode cX6_standing 1 = .ok (.iload_n 1, 1) := by decide +kernel
theorem dX6_standing_2 : decode cX6_standing 2 = .ok (.invokevirtual 114, 3) := by decide +kernel
theorem dX6_standing_5 : decode cX6_standing 5 = .ok (.getfield 173, 3) := by decide +kernel
theorem dX6_standing_8 : decode cX6_standing 8 = .ok (.ireturn, 1) := by decide +kernel
set_option maxRecDepth 20000 in
theorem ggX6_commit_X6_transactionAt : GoodIn wsX6_commit wsX6_transactionAt := goodIn_ca (goodIn_r _ [11, 12, 13, 14, 15, 16, 17, 18, 19, 20, 21, 22, 23, 24, 25, 26, 27, 28, 29, 30, 31, 32, 33, 34, 35, 36, 37, 38, 150, 151, 152, 153, 154, 155, 156, 157, 161, 162, 163] (by decide +kernel) (by decide +kernel)) (goodIn_sub (fun _ h => List.mem_cons_of_mem _ (List.mem_append_left _ (List.mem_append_right _ h))) (by decide +kernel))
set_option maxRecDepth 20000 in
theorem gX6_commit_X6_transactionAt : GoodIn wsX6_commit (wsV RX6 114 RX6 yX6_transactionAt wsX6_transactionAt) := goodIn_app (goodIn_of _ (by decide +kernel)) ggX6_commit_X6_transactionAt
set_option maxRecDepth 20000 in
theorem ggX6_commit_X6_requireRunning : GoodIn wsX6_commit wsX6_requireRunning := goodIn_ca (goodIn_r _ [41, 42, 43, 1, 146, 147, 148, 149] (by decide +kernel) (by decide +kernel)) (goodIn_sub (fun _ h => List.mem_cons_of_mem _ (List.mem_append_right _ h)) (by decide +kernel))
set_option maxRecDepth 20000 in
theorem gX6_commit_X6_requireRunning : GoodIn wsX6_commit (va_wsS RX6 176 yX6_requireRunning wsX6_requireRunning) := goodIn_app (goodIn_of _ (by decide +kernel)) ggX6_commit_X6_requireRunning
set_option maxRecDepth 20000 in
theorem ggX6_commit_X6_runFreed : GoodIn wsX6_commit wsX6_runFreed := goodIn_r _ [47, 14, 15, 1, 16, 17, 18, 19, 20, 21, 22, 23, 24, 25, 26, 27, 28, 29, 30, 31, 32, 33, 34, 35, 36, 37, 38, 48, 49, 50, 10, 51, 52, 53, 54, 55, 56, 57, 58, 59, 60, 61, 62, 63, 64, 65, 66, 67, 68, 69, 70, 71, 72, 73, 74, 75, 76, 77, 78, 79, 80, 81, 82, 83, 84, 85, 86, 87, 88, 89, 90, 91, 92, 93, 94, 95, 96, 97, 98, 99, 100, 101, 102, 103, 104, 105, 106, 107, 108, 109, 110, 111, 112, 113, 114, 115, 116, 117, 118, 119, 120, 121, 122, 123, 124, 125, 126, 127, 128, 129, 130, 131, 132, 133, 134, 135, 136, 137, 138, 139, 140, 141, 142, 143, 144, 145, 150, 151, 152, 153, 154, 155, 156, 157, 146, 147, 148, 149, 161, 162, 163, 164, 165, 166] (by decide +kernel) (by decide +kernel)
set_option maxRecDepth 20000 in
theorem gX6_commit_X6_runFreed : GoodIn wsX6_commit (wsV RX6 107 RX6 yX6_runFreed wsX6_runFreed) := goodIn_app (goodIn_of _ (by decide +kernel)) ggX6_commit_X6_runFreed
theorem dX6_commit_0 : decode cX6_commit 0 = .ok (.aload_n 0, 1) := by decide +kernel
theorem dX6_commit_1 : decode cX6_commit 1 = .ok (.iload_n 1, 1) := by decide +kernel
theorem dX6_commit_2 : decode cX6_commit 2 = .ok (.invokevirtual 114, 3) := by decide +kernel
theorem dX6_commit_5 : decode cX6_commit 5 = .ok (.astore_n 2, 1) := by decide +kernel
theorem dX6_commit_6 : decode cX6_commit 6 = .ok (.aload_n 2, 1) := by decide +kernel
theorem dX6_commit_7 : decode cX6_commit 7 = .ok (.invokestatic 176, 3) := by decide +kernel
theorem dX6_commit_10 : decode cX6_commit 10 = .ok (.aload_n 2, 1) := by decide +kernel
theorem dX6_commit_11 : decode cX6_commit 11 = .ok (.iconst 2, 1) := by decide +kernel
theorem dX6_commit_12 : decode cX6_commit 12 = .ok (.putfield 173, 3) := by decide +kernel
theorem dX6_commit_15 : decode cX6_commit 15 = .ok (.iload_n 1, 1) := by decide +kernel
theorem dX6_commit_16 : decode cX6_commit 16 = .ok (.aload_n 0, 1) := by decide +kernel
theorem dX6_commit_17 : decode cX6_commit 17 = .ok (.getfield 38, 3) := by decide +kernel
theorem dX6_commit_20 : decode cX6_commit 20 = .ok (.if_icmp .ne 27, 3) := by decide +kernel
theorem dX6_commit_23 : decode cX6_commit 23 = .ok (.aload_n 0, 1) := by decide +kernel
theorem dX6_commit_24 : decode cX6_commit 24 = .ok (.iconst (-1), 1) := by decide +kernel
theorem dX6_commit_25 : decode cX6_commit 25 = .ok (.putfield 38, 3) := by decide +kernel
theorem dX6_commit_28 : decode cX6_commit 28 = .ok (.aload_n 0, 1) := by decide +kernel
theorem dX6_commit_29 : decode cX6_commit 29 = .ok (.aload_n 2, 1) := by decide +kernel
theorem dX6_commit_30 : decode cX6_commit 30 = .ok (.getfield 95, 3) := by decide +kernel
theorem dX6_commit_33 : decode cX6_commit 33 = .ok (.getfield 68, 3) := by decide +kernel
theorem dX6_commit_36 : decode cX6_commit 36 = .ok (.putfield 34, 3) := by decide +kernel
theorem dX6_commit_39 : decode cX6_commit 39 = .ok (.aload_n 2, 1) := by decide +kernel
theorem dX6_commit_40 : decode cX6_commit 40 = .ok (.getfield 95, 3) := by decide +kernel
theorem dX6_commit_43 : decode cX6_commit 43 = .ok (.iconst 1, 1) := by decide +kernel
theorem dX6_commit_44 : decode cX6_commit 44 = .ok (.putfield 65, 3) := by decide +kernel
theorem dX6_commit_47 : decode cX6_commit 47 = .ok (.aload_n 0, 1) := by decide +kernel
theorem dX6_commit_48 : decode cX6_commit 48 = .ok (.invokevirtual 107, 3) := by decide +kernel
theorem dX6_commit_51 : decode cX6_commit 51 = .ok (.ireturn, 1) := by decide +kernel
set_option maxRecDepth 20000 in
theorem ggX6_abort_X6_transactionAt : GoodIn wsX6_abort wsX6_transactionAt := goodIn_ca (goodIn_r _ [9, 10, 11, 12, 13, 14, 15, 16, 17, 18, 19, 20, 21, 22, 23, 24, 25, 26, 27, 28, 29, 30, 31, 32, 33, 34, 35, 36, 197, 198, 199, 200, 201, 202, 203, 204, 209, 210, 211] (by decide +kernel) (by decide +kernel)) (goodIn_sub (fun _ h => List.mem_cons_of_mem _ (List.mem_append_right _ h)) (by decide +kernel))
set_option maxRecDepth 20000 in
theorem gX6_abort_X6_transactionAt : GoodIn wsX6_abort (wsV RX6 114 RX6 yX6_transactionAt wsX6_transactionAt) := goodIn_app (goodIn_of _ (by decide +kernel)) ggX6_abort_X6_transactionAt
set_option maxRecDepth 20000 in
theorem ggX6_abort_X5_isPending : GoodIn wsX6_abort wsX5_isPending := goodIn_r _ [41, 42, 205, 206, 207, 208] (by decide +kernel) (by decide +kernel)
set_option maxRecDepth 20000 in
theorem gX6_abort_X5_isPending : GoodIn wsX6_abort (wsV RX6 99 RX5 yX5_isPending wsX5_isPending) := goodIn_app (goodIn_of _ (by decide +kernel)) ggX6_abort_X5_isPending
set_option maxRecDepth 20000 in
theorem ggX6_abort_X6_hasRoomAfter : GoodIn wsX6_abort wsX6_hasRoomAfter := goodIn_r _ [46, 47, 48, 49, 8, 50, 12, 14, 15, 16, 17, 18, 19, 51, 52, 53, 54, 55, 56, 57, 58, 59, 60, 61, 62, 63, 64, 197, 198, 199, 200, 201, 202, 203, 204, 209, 210, 211, 212, 213, 214] (by decide +kernel) (by decide +kernel)
set_option maxRecDepth 20000 in
theorem gX6_abort_X6_hasRoomAfter : GoodIn wsX6_abort (wsV RX6 77 RX6 yX6_hasRoomAfter wsX6_hasRoomAfter) := goodIn_app (goodIn_of _ (by decide +kernel)) ggX6_abort_X6_hasRoomAfter
set_option maxRecDepth 20000 in
theorem ggX6_abort_X6_giveUp : GoodIn wsX6_abort wsX6_giveUp := goodIn_r _ [68, 69, 70, 71, 72, 73, 74, 8, 75, 76, 77, 78, 40, 79, 80, 81, 82, 83, 84, 85, 86, 87, 88, 89, 90, 91, 92, 17, 93, 94, 95, 36, 19, 96, 15, 16, 18, 97, 21, 22, 23, 24, 25, 26, 27, 28, 29, 30, 31, 32, 33, 34, 35, 98, 99, 100, 101, 102, 103, 104, 105, 106, 107, 108, 109, 110, 111, 112, 113, 114, 115, 116, 117, 118, 119, 120, 121, 122, 123, 124, 125, 126, 127, 128, 129, 130, 131, 132, 133, 134, 135, 136, 137, 138, 139, 140, 141, 142, 143, 144, 145, 146, 147, 148, 205, 206, 207, 208, 197, 198, 199, 200, 201, 202, 203, 204, 215, 216, 217, 209, 210, 211] (by decide +kernel) (by decide +kernel)
set_option maxRecDepth 20000 in
theorem gX6_abort_X6_giveUp : GoodIn wsX6_abort (wsV RX6 103 RX6 yX6_giveUp wsX6_giveUp) := goodIn_app (goodIn_of _ (by decide +kernel)) ggX6_abort_X6_giveUp
set_option maxRecDepth 20000 in
theorem ggX6_abort_X6_runFreed : GoodIn wsX6_abort wsX6_runFreed := goodIn_r _ [152, 12, 13, 69, 14, 15, 16, 17, 18, 19, 20, 21, 22, 23, 24, 25, 26, 27, 28, 29, 30, 31, 32, 33, 34, 35, 36, 153, 154, 155, 8, 156, 37, 38, 39, 40, 41, 42, 157, 158, 159, 160, 80, 161, 162, 163, 164, 165, 70, 72, 71, 73, 74, 75, 76, 77, 78, 79, 81, 82, 83, 84, 85, 86, 87, 88, 89, 90, 91, 92, 93, 94, 95, 96, 97, 98, 99, 100, 101, 102, 103, 104, 105, 106, 107, 108, 109, 110, 111, 112, 113, 114, 115, 116, 117, 118, 119, 120, 121, 122, 123, 124, 125, 126, 127, 128, 129, 130, 131, 132, 133, 134, 135, 136, 137, 138, 139, 140, 141, 142, 143, 144, 145, 146, 147, 148, 197, 198, 199, 200, 201, 202, 203, 204, 205, 206, 207, 208, 209, 210, 211, 215, 216, 217] (by decide +kernel) (by decide +kernel)
set_option maxRecDepth 20000 in
theorem gX6_abort_X6_runFreed : GoodIn wsX6_abort (wsV RX6 107 RX6 yX6_runFreed wsX6_runFreed) := goodIn_app (goodIn_of _ (by decide +kernel)) ggX6_abort_X6_runFreed
set_option maxRecDepth 20000 in
theorem ggX6_abort_X6_leave : GoodIn wsX6_abort wsX6_leave := goodIn_r _ [169, 56, 3, 170, 171, 172, 8, 173, 55, 57, 58, 174, 175, 176, 177, 59, 60, 61, 62, 63, 64, 178, 179, 180, 181, 182, 183, 184, 185, 186, 12, 187, 188, 40, 14, 15, 16, 17, 18, 19, 189, 190, 191, 192, 193, 194, 42, 195, 80, 161, 196, 99, 100, 101, 94, 95, 36, 102, 103, 104, 105, 106, 107, 108, 109, 110, 111, 112, 113, 114, 115, 116, 117, 118, 119, 120, 121, 122, 123, 124, 125, 126, 127, 128, 129, 130, 131, 132, 133, 134, 135, 136, 137, 138, 139, 140, 141, 142, 143, 144, 145, 146, 147, 148, 162, 163, 164, 165, 69, 70, 72, 71, 73, 74, 75, 76, 77, 78, 79, 81, 82, 83, 84, 85, 86, 87, 88, 89, 90, 91, 92, 93, 96, 97, 21, 22, 23, 24, 25, 26, 27, 28, 29, 30, 31, 32, 33, 34, 35, 98, 212, 213, 214, 197, 198, 199, 200, 201, 202, 203, 204, 205, 206, 207, 208, 209, 210, 211, 215, 216, 217] (by decide +kernel) (by decide +kernel)
set_option maxRecDepth 20000 in
theorem gX6_abort_X6_leave : GoodIn wsX6_abort (wsV RX6 110 RX6 yX6_leave wsX6_leave) := goodIn_app (goodIn_of _ (by decide +kernel)) ggX6_abort_X6_leave
theorem dX6_abort_0 : decode cX6_abort 0 = .ok (.aload_n 0, 1) := by decide +kernel
theorem dX6_abort_1 : decode cX6_abort 1 = .ok (.iload_n 1, 1) := by decide +kernel
theorem dX6_abort_2 : decode cX6_abort 2 = .ok (.invokevirtual 114, 3) := by decide +kernel
theorem dX6_abort_5 : decode cX6_abort 5 = .ok (.astore_n 2, 1) := by decide +kernel
theorem dX6_abort_6 : decode cX6_abort 6 = .ok (.iload_n 1, 1) := by decide +kernel
theorem dX6_abort_7 : decode cX6_abort 7 = .ok (.aload_n 0, 1) := by decide +kernel
theorem dX6_abort_8 : decode cX6_abort 8 = .ok (.getfield 38, 3) := by decide +kernel
theorem dX6_abort_11 : decode cX6_abort 11 = .ok (.if_icmp .ne 7, 3) := by decide +kernel
theorem dX6_abort_14 : decode cX6_abort 14 = .ok (.iconst 1, 1) := by decide +kernel
theorem dX6_abort_15 : decode cX6_abort 15 = .ok (.goto 4, 3) := by decide +kernel
theorem dX6_abort_18 : decode cX6_abort 18 = .ok (.iconst 0, 1) := by decide +kernel
theorem dX6_abort_19 : decode cX6_abort 19 = .ok (.istore_n 3, 1) := by decide +kernel
theorem dX6_abort_20 : decode cX6_abort 20 = .ok (.aload_n 2, 1) := by decide +kernel
theorem dX6_abort_21 : decode cX6_abort 21 = .ok (.invokevirtual 99, 3) := by decide +kernel
theorem dX6_abort_24 : decode cX6_abort 24 = .ok (.ifCond .eq 18, 3) := by decide +kernel
theorem dX6_abort_27 : decode cX6_abort 27 = .ok (.iload_n 3, 1) := by decide +kernel
theorem dX6_abort_28 : decode cX6_abort 28 = .ok (.ifCond .eq 24, 3) := by decide +kernel
theorem dX6_abort_31 : decode cX6_abort 31 = .ok (.aload_n 0, 1) := by decide +kernel
theorem dX6_abort_32 : decode cX6_abort 32 = .ok (.aload_n 2, 1) := by decide +kernel
theorem dX6_abort_33 : decode cX6_abort 33 = .ok (.getfield 95, 3) := by decide +kernel
theorem dX6_abort_36 : decode cX6_abort 36 = .ok (.invokevirtual 77, 3) := by decide +kernel
theorem dX6_abort_39 : decode cX6_abort 39 = .ok (.ifCond .ne 13, 3) := by decide +kernel
theorem dX6_abort_42 : decode cX6_abort 42 = .ok (.new 58, 3) := by decide +kernel
theorem dX6_abort_45 : decode cX6_abort 45 = .ok (.dup, 1) := by decide +kernel
theorem dX6_abort_46 : decode cX6_abort 46 = .ok (.ldc 179, 2) := by decide +kernel
theorem dX6_abort_48 : decode cX6_abort 48 = .ok (.invokespecial 62, 3) := by decide +kernel
theorem dX6_abort_51 : decode cX6_abort 51 = .ok (.athrow, 1) := by decide +kernel
theorem dX6_abort_52 : decode cX6_abort 52 = .ok (.aload_n 0, 1) := by decide +kernel
theorem dX6_abort_53 : decode cX6_abort 53 = .ok (.aload_n 2, 1) := by decide +kernel
theorem dX6_abort_54 : decode cX6_abort 54 = .ok (.invokevirtual 103, 3) := by decide +kernel
theorem dX6_abort_57 : decode cX6_abort 57 = .ok (.aload_n 0, 1) := by decide +kernel
theorem dX6_abort_58 : decode cX6_abort 58 = .ok (.invokevirtual 107, 3) := by decide +kernel
theorem dX6_abort_61 : decode cX6_abort 61 = .ok (.istore 4, 2) := by decide +kernel
theorem dX6_abort_63 : decode cX6_abort 63 = .ok (.iload_n 3, 1) := by decide +kernel
theorem dX6_abort_64 : decode cX6_abort 64 = .ok (.ifCond .eq 11, 3) := by decide +kernel
theorem dX6_abort_67 : decode cX6_abort 67 = .ok (.aload_n 0, 1) := by decide +kernel
theorem dX6_abort_68 : decode cX6_abort 68 = .ok (.aload_n 2, 1) := by decide +kernel
theorem dX6_abort_69 : decode cX6_abort 69 = .ok (.getfield 95, 3) := by decide +kernel
theorem dX6_abort_72 : decode cX6_abort 72 = .ok (.invokevirtual 110, 3) := by decide +kernel
theorem dX6_abort_75 : decode cX6_abort 75 = .ok (.iload 4, 2) := by decide +kernel
theorem dX6_abort_77 : decode cX6_abort 77 = .ok (.ireturn, 1) := by decide +kernel
set_option maxRecDepth 20000 in
theorem ggX6_put_X6_transactionAt : GoodIn wsX6_put wsX6_transactionAt := goodIn_ca (goodIn_r _ [10, 11, 12, 13, 14, 15, 16, 17, 18, 19, 20, 21, 22, 23, 24, 25, 26, 27, 28, 29, 30, 31, 32, 33, 34, 35, 36, 37, 187, 188, 189, 190, 191, 192, 193, 194, 195, 196, 197] (by decide +kernel) (by decide +kernel)) (goodIn_sub (fun _ h => List.mem_cons_of_mem _ (List.mem_append_left _ (List.mem_append_right _ h))) (by decide +kernel))
set_option maxRecDepth 20000 in
theorem gX6_put_X6_transactionAt : GoodIn wsX6_put (wsV RX6 114 RX6 yX6_transactionAt wsX6_transactionAt) := goodIn_app (goodIn_of _ (by decide +kernel)) ggX6_put_X6_transactionAt
set_option maxRecDepth 20000 in
theorem ggX6_put_X6_storeAt : GoodIn wsX6_put wsX6_storeAt := goodIn_ca (goodIn_r _ [41, 11, 12, 42, 43, 187, 188, 189, 190, 191, 192, 193, 194, 198, 199, 200] (by decide +kernel) (by decide +kernel)) (goodIn_sub (fun _ h => List.mem_cons_of_mem _ (List.mem_append_left _ (List.mem_append_right _ h))) (by decide +kernel))
set_option maxRecDepth 20000 in
theorem gX6_put_X6_storeAt : GoodIn wsX6_put (wsV RX6 133 RX6 yX6_storeAt wsX6_storeAt) := goodIn_app (goodIn_of _ (by decide +kernel)) ggX6_put_X6_storeAt
set_option maxRecDepth 20000 in
theorem ggX6_put_X6_requireKey : GoodIn wsX6_put wsX6_requireKey := goodIn_ca (goodIn_r _ [46, 47, 48, 49, 50, 51, 52, 53, 54, 55, 56, 57, 58, 59, 60] (by decide +kernel) (by decide +kernel)) (goodIn_sub (fun _ h => List.mem_cons_of_mem _ (List.mem_append_right _ h)) (by decide +kernel))
set_option maxRecDepth 20000 in
theorem gX6_put_X6_requireKey : GoodIn wsX6_put (va_wsS RX6 181 yX6_requireKey wsX6_requireKey) := goodIn_app (goodIn_of _ (by decide +kernel)) ggX6_put_X6_requireKey
set_option maxRecDepth 20000 in
theorem ggX6_put_X6_requireInRange : GoodIn wsX6_put wsX6_requireInRange := goodIn_ca (goodIn_r _ [63, 47, 48] (by decide +kernel) (by decide +kernel)) (goodIn_sub (fun _ h => List.mem_cons_of_mem _ (List.mem_append_right _ h)) (by decide +kernel))
set_option maxRecDepth 20000 in
theorem gX6_put_X6_requireInRange : GoodIn wsX6_put (va_wsS RX6 50 yX6_requireInRange wsX6_requireInRange) := goodIn_app (goodIn_of _ (by decide +kernel)) ggX6_put_X6_requireInRange
set_option maxRecDepth 20000 in
theorem ggX6_put_X6_requireWriting : GoodIn wsX6_put wsX6_requireWriting := goodIn_ca (goodIn_r _ [66, 1, 2, 67, 68, 69, 9, 70, 71, 72, 73, 74, 75, 76, 77, 78, 79, 80, 201, 202, 203, 204] (by decide +kernel) (by decide +kernel)) (goodIn_sub (fun _ h => List.mem_cons_of_mem _ (List.mem_append_left _ (List.mem_append_left _ (List.mem_append_right _ h)))) (by decide +kernel))
set_option maxRecDepth 20000 in
theorem gX6_put_X6_requireWriting : GoodIn wsX6_put (va_wsS RX6 184 yX6_requireWriting wsX6_requireWriting) := goodIn_app (goodIn_of _ (by decide +kernel)) ggX6_put_X6_requireWriting
set_option maxRecDepth 20000 in
theorem ggX6_put_X2_init : GoodIn wsX6_put wsX2_init := goodIn_r _ [83, 84, 85, 86, 87, 88, 89, 90, 183, 184, 185, 186] (by decide +kernel) (by decide +kernel)
set_option maxRecDepth 20000 in
theorem gX6_put_X2_init : GoodIn wsX6_put (wsX2_init) := ggX6_put_X2_init
set_option maxRecDepth 20000 in
theorem ggX6_put_X3_find : GoodIn wsX6_put wsX3_find := goodIn_r _ [95, 96, 97, 98, 99, 16, 17, 18, 19, 20, 100, 22, 23, 24, 25, 26, 27, 28, 29, 30, 31, 32, 33, 34, 35, 36, 37, 198, 199, 200, 183, 184, 185, 186, 195, 196, 197] (by decide +kernel) (by decide +kernel)
set_option maxRecDepth 20000 in
theorem gX6_put_X3_find : GoodIn wsX6_put (wsV RX6 193 RX3 yX3_find wsX3_find) := goodIn_app (goodIn_of _ (by decide +kernel)) ggX6_put_X3_find
set_option maxRecDepth 20000 in
theorem ggX6_put_X3_clashes : GoodIn wsX6_put wsX3_clashes := goodIn_r _ [104, 105, 106, 107, 108, 94, 109, 96, 97, 98, 110, 111, 112, 5, 113, 89, 90, 99, 16, 17, 18, 19, 20, 100, 22, 23, 24, 25, 26, 27, 28, 29, 30, 31, 32, 33, 34, 35, 36, 37, 198, 199, 200, 183, 184, 185, 186, 195, 196, 197] (by decide +kernel) (by decide +kernel)
set_option maxRecDepth 20000 in
theorem gX6_put_X3_clashes : GoodIn wsX6_put (wsV RX6 197 RX3 yX3_clashes wsX3_clashes) := goodIn_app (goodIn_of _ (by decide +kernel)) ggX6_put_X3_clashes
set_option maxRecDepth 20000 in
theorem ggX6_put_X6_rowsInAll : GoodIn wsX6_put wsX6_rowsInAll := goodIn_r _ [117, 42, 118, 119, 120, 94, 121, 96, 99, 16, 17, 18, 19, 20, 187, 188, 189, 190, 191, 192, 193, 194, 198, 199, 200, 195, 196, 197] (by decide +kernel) (by decide +kernel)
set_option maxRecDepth 20000 in
theorem gX6_put_X6_rowsInAll : GoodIn wsX6_put (wsV RX6 201 RX6 yX6_rowsInAll wsX6_rowsInAll) := goodIn_app (goodIn_of _ (by decide +kernel)) ggX6_put_X6_rowsInAll
set_option maxRecDepth 20000 in
theorem ggX6_put_X3_set : GoodIn wsX6_put wsX3_set := goodIn_r _ [125, 96, 97, 98, 99, 16, 17, 18, 19, 20, 100, 22, 23, 24, 25, 26, 27, 28, 29, 30, 31, 32, 33, 34, 35, 36, 37, 126, 127, 128, 129, 130, 131, 132, 133, 134, 135, 136, 137, 138, 139, 140, 141, 142, 143, 144, 145, 146, 147, 148, 149, 150, 151, 152, 153, 154, 155, 156, 157, 158, 159, 160, 161, 162, 163, 164, 165, 166, 167, 168, 169, 170, 171, 172, 173, 174, 175, 176, 177, 178, 179, 180, 181, 182, 198, 199, 200, 183, 184, 185, 186, 195, 196, 197] (by decide +kernel) (by decide +kernel)
set_option maxRecDepth 20000 in
theorem gX6_put_X3_set : GoodIn wsX6_put (wsV RX6 206 RX3 yX3_set wsX3_set) := goodIn_app (goodIn_of _ (by decide +kernel)) ggX6_put_X3_set
theorem dX6_put_0 : decode cX6_put 0 = .ok (.aload_n 0, 1) := by decide +kernel
theorem dX6_put_1 : decode cX6_put 1 = .ok (.iload_n 1, 1) := by decide +kernel
theorem dX6_put_2 : decode cX6_put 2 = .ok (.invokevirtual 114, 3) := by decide +kernel
theorem dX6_put_5 : decode cX6_put 5 = .ok (.astore 7, 2) := by decide +kernel
theorem dX6_put_7 : decode cX6_put 7 = .ok (.aload_n 0, 1) := by decide +kernel
theorem dX6_put_8 : decode cX6_put 8 = .ok (.iload_n 2, 1) := by decide +kernel
theorem dX6_put_9 : decode cX6_put 9 = .ok (.invokevirtual 133, 3) := by decide +kernel
theorem dX6_put_12 : decode cX6_put 12 = .ok (.astore 8, 2) := by decide +kernel
theorem dX6_put_14 : decode cX6_put 14 = .ok (.iload_n 3, 1) := by decide +kernel
theorem dX6_put_15 : decode cX6_put 15 = .ok (.invokestatic 181, 3) := by decide +kernel
theorem dX6_put_18 : decode cX6_put 18 = .ok (.iload 4, 2) := by decide +kernel
theorem dX6_put_20 : decode cX6_put 20 = .ok (.iconst 0, 1) := by decide +kernel
theorem dX6_put_21 : decode cX6_put 21 = .ok (.sipush 9999, 3) := by decide +kernel
theorem dX6_put_24 : decode cX6_put 24 = .ok (.invokestatic 50, 3) := by decide +kernel
theorem dX6_put_27 : decode cX6_put 27 = .ok (.iload 5, 2) := by decide +kernel
theorem dX6_put_29 : decode cX6_put 29 = .ok (.iconst (-1), 1) := by decide +kernel
theorem dX6_put_30 : decode cX6_put 30 = .ok (.sipush 999, 3) := by decide +kernel
theorem dX6_put_33 : decode cX6_put 33 = .ok (.invokestatic 50, 3) := by decide +kernel
theorem dX6_put_36 : decode cX6_put 36 = .ok (.iload 6, 2) := by decide +kernel
theorem dX6_put_38 : decode cX6_put 38 = .ok (.iconst (-1), 1) := by decide +kernel
theorem dX6_put_39 : decode cX6_put 39 = .ok (.sipush 999, 3) := by decide +kernel
theorem dX6_put_42 : decode cX6_put 42 = .ok (.invokestatic 50, 3) := by decide +kernel
theorem dX6_put_45 : decode cX6_put 45 = .ok (.aload 7, 2) := by decide +kernel
theorem dX6_put_47 : decode cX6_put 47 = .ok (.iload_n 2, 1) := by decide +kernel
theorem dX6_put_48 : decode cX6_put 48 = .ok (.invokestatic 184, 3) := by decide +kernel
theorem dX6_put_51 : decode cX6_put 51 = .ok (.new 188, 3) := by decide +kernel
theorem dX6_put_54 : decode cX6_put 54 = .ok (.dup, 1) := by decide +kernel
theorem dX6_put_55 : decode cX6_put 55 = .ok (.iload_n 3, 1) := by decide +kernel
theorem dX6_put_56 : decode cX6_put 56 = .ok (.iload 4, 2) := by decide +kernel
theorem dX6_put_58 : decode cX6_put 58 = .ok (.iload 5, 2) := by decide +kernel
theorem dX6_put_60 : decode cX6_put 60 = .ok (.iload 6, 2) := by decide +kernel
theorem dX6_put_62 : decode cX6_put 62 = .ok (.invokespecial 190, 3) := by decide +kernel
theorem dX6_put_65 : decode cX6_put 65 = .ok (.astore 9, 2) := by decide +kernel
theorem dX6_put_67 : decode cX6_put 67 = .ok (.aload 8, 2) := by decide +kernel
theorem dX6_put_69 : decode cX6_put 69 = .ok (.iload_n 3, 1) := by decide +kernel
theorem dX6_put_70 : decode cX6_put 70 = .ok (.invokevirtual 193, 3) := by decide +kernel
theorem dX6_put_73 : decode cX6_put 73 = .ok (.ifnonnull 7, 3) := by decide +kernel
theorem dX6_put_76 : decode cX6_put 76 = .ok (.iconst 1, 1) := by decide +kernel
theorem dX6_put_77 : decode cX6_put 77 = .ok (.goto 4, 3) := by decide +kernel
theorem dX6_put_80 : decode cX6_put 80 = .ok (.iconst 0, 1) := by decide +kernel
theorem dX6_put_81 : decode cX6_put 81 = .ok (.istore 10, 2) := by decide +kernel
theorem dX6_put_83 : decode cX6_put 83 = .ok (.aload 8, 2) := by decide +kernel
theorem dX6_put_85 : decode cX6_put 85 = .ok (.aload 9, 2) := by decide +kernel
theorem dX6_put_87 : decode cX6_put 87 = .ok (.invokevirtual 197, 3) := by decide +kernel
theorem dX6_put_90 : decode cX6_put 90 = .ok (.ifCond .ne 17, 3) := by decide +kernel
theorem dX6_put_93 : decode cX6_put 93 = .ok (.iload 10, 2) := by decide +kernel
theorem dX6_put_95 : decode cX6_put 95 = .ok (.ifCond .eq 22, 3) := by decide +kernel
theorem dX6_put_98 : decode cX6_put 98 = .ok (.aload_n 0, 1) := by decide +kernel
theorem dX6_put_99 : decode cX6_put 99 = .ok (.invokevirtual 201, 3) := by decide +kernel
theorem dX6_put_102 : decode cX6_put 102 = .ok (.bipush 40, 2) := by decide +kernel
theorem dX6_put_104 : decode cX6_put 104 = .ok (.if_icmp .lt 13, 3) := by decide +kernel
theorem dX6_put_107 : decode cX6_put 107 = .ok (.new 58, 3) := by decide +kernel
theorem dX6_put_110 : decode cX6_put 110 = .ok (.dup, 1) := by decide +kernel
theorem dX6_put_111 : decode cX6_put 111 = .ok (.ldc 204, 2) := by decide +kernel
theorem dX6_put_113 : decode cX6_put 113 = .ok (.invokespecial 62, 3) := by decide +kernel
theorem dX6_put_116 : decode cX6_put 116 = .ok (.athrow, 1) := by decide +kernel
theorem dX6_put_117 : decode cX6_put 117 = .ok (.aload 8, 2) := by decide +kernel
theorem dX6_put_119 : decode cX6_put 119 = .ok (.aload 9, 2) := by decide +kernel
theorem dX6_put_121 : decode cX6_put 121 = .ok (.invokevirtual 206, 3) := by decide +kernel
theorem dX6_put_124 : decode cX6_put 124 = .ok (.iload 10, 2) := by decide +kernel
theorem dX6_put_126 : decode cX6_put 126 = .ok (.ireturn, 1) := by decide +kernel
set_option maxRecDepth 20000 in
theorem ggX6_remove_X6_transactionAt : GoodIn wsX6_remove wsX6_transactionAt := goodIn_ca (goodIn_r _ [5, 6, 7, 8, 9, 10, 11, 12, 13, 14, 15, 16, 17, 18, 19, 20, 21, 22, 23, 24, 25, 26, 27, 28, 29, 30, 31, 32, 108, 109, 110, 111, 112, 113, 114, 115, 116, 117, 118] (by decide +kernel) (by decide +kernel)) (goodIn_sub (fun _ h => List.mem_cons_of_mem _ (List.mem_append_left _ (List.mem_append_left _ (List.mem_append_right _ h)))) (by decide +kernel))
set_option maxRecDepth 20000 in
theorem gX6_remove_X6_transactionAt : GoodIn wsX6_remove (wsV RX6 114 RX6 yX6_transactionAt wsX6_transactionAt) := goodIn_app (goodIn_of _ (by decide +kernel)) ggX6_remove_X6_transactionAt
set_option maxRecDepth 20000 in
theorem ggX6_remove_X6_storeAt : GoodIn wsX6_remove wsX6_storeAt := goodIn_ca (goodIn_r _ [36, 6, 7, 37, 38, 108, 109, 110, 111, 112, 113, 114, 115, 119, 120, 121] (by decide +kernel) (by decide +kernel)) (goodIn_sub (fun _ h => List.mem_cons_of_mem _ (List.mem_append_left _ (List.mem_append_left _ (List.mem_append_right _ h)))) (by decide +kernel))
set_option maxRecDepth 20000 in
theorem gX6_remove_X6_storeAt : GoodIn wsX6_remove (wsV RX6 133 RX6 yX6_storeAt wsX6_storeAt) := goodIn_app (goodIn_of _ (by decide +kernel)) ggX6_remove_X6_storeAt
set_option maxRecDepth 20000 in
theorem ggX6_remove_X6_requireKey : GoodIn wsX6_remove wsX6_requireKey := goodIn_ca (goodIn_r _ [41, 42, 43, 44, 45, 46, 47, 48, 49, 50, 51, 52, 53, 54, 55] (by decide +kernel) (by decide +kernel)) (goodIn_sub (fun _ h => List.mem_cons_of_mem _ (List.mem_append_left _ (List.mem_append_right _ h))) (by decide +kernel))
set_option maxRecDepth 20000 in
theorem gX6_remove_X6_requireKey : GoodIn wsX6_remove (va_wsS RX6 181 yX6_requireKey wsX6_requireKey) := goodIn_app (goodIn_of _ (by decide +kernel)) ggX6_remove_X6_requireKey
set_option maxRecDepth 20000 in
theorem ggX6_remove_X6_requireWriting : GoodIn wsX6_remove wsX6_requireWriting := goodIn_ca (goodIn_r _ [58, 59, 60, 61, 62, 63, 4, 64, 65, 66, 67, 68, 69, 70, 71, 72, 73, 74, 122, 123, 124, 125] (by decide +kernel) (by decide +kernel)) (goodIn_sub (fun _ h => List.mem_cons_of_mem _ (List.mem_append_right _ h)) (by decide +kernel))
set_option maxRecDepth 20000 in
theorem gX6_remove_X6_requireWriting : GoodIn wsX6_remove (va_wsS RX6 184 yX6_requireWriting wsX6_requireWriting) := goodIn_app (goodIn_of _ (by decide +kernel)) ggX6_remove_X6_requireWriting
set_option maxRecDepth 20000 in
theorem ggX6_remove_X3_removeBetween : GoodIn wsX6_remove wsX3_removeBetween := goodIn_r _ [79, 80, 81, 82, 11, 12, 13, 14, 15, 83, 17, 18, 19, 20, 21, 22, 23, 24, 25, 26, 27, 28, 29, 30, 31, 32, 84, 85, 86, 87, 88, 89, 90, 91, 46, 92, 49, 93, 94, 95, 96, 97, 98, 99, 100, 101, 102, 103, 104, 105, 106, 107, 119, 120, 121, 116, 117, 118, 126, 127, 128, 129] (by decide +kernel) (by decide +kernel)
set_option maxRecDepth 20000 in
theorem gX6_remove_X3_removeBetween : GoodIn wsX6_remove (wsV RX6 210 RX3 yX3_removeBetween wsX3_removeBetween) := goodIn_app (goodIn_of _ (by decide +kernel)) ggX6_remove_X3_removeBetween
theorem dX6_remove_0 : decode cX6_remove 0 = .ok (.aload_n 0, 1) := by decide +kernel
theorem dX6_remove_1 : decode cX6_remove 1 = .ok (.iload_n 1, 1) := by decide +kernel
theorem dX6_remove_2 : decode cX6_remove 2 = .ok (.invokevirtual 114, 3) := by decide +kernel
theorem dX6_remove_5 : decode cX6_remove 5 = .ok (.astore 5, 2) := by decide +kernel
theorem dX6_remove_7 : decode cX6_remove 7 = .ok (.aload_n 0, 1) := by decide +kernel
theorem dX6_remove_8 : decode cX6_remove 8 = .ok (.iload_n 2, 1) := by decide +kernel
theorem dX6_remove_9 : decode cX6_remove 9 = .ok (.invokevirtual 133, 3) := by decide +kernel
theorem dX6_remove_12 : decode cX6_remove 12 = .ok (.astore 6, 2) := by decide +kernel
theorem dX6_remove_14 : decode cX6_remove 14 = .ok (.iload_n 3, 1) := by decide +kernel
theorem dX6_remove_15 : decode cX6_remove 15 = .ok (.invokestatic 181, 3) := by decide +kernel
theorem dX6_remove_18 : decode cX6_remove 18 = .ok (.iload 4, 2) := by decide +kernel
theorem dX6_remove_20 : decode cX6_remove 20 = .ok (.invokestatic 181, 3) := by decide +kernel
theorem dX6_remove_23 : decode cX6_remove 23 = .ok (.aload 5, 2) := by decide +kernel
theorem dX6_remove_25 : decode cX6_remove 25 = .ok (.iload_n 2, 1) := by decide +kernel
theorem dX6_remove_26 : decode cX6_remove 26 = .ok (.invokestatic 184, 3) := by decide +kernel
theorem dX6_remove_29 : decode cX6_remove 29 = .ok (.aload 6, 2) := by decide +kernel
theorem dX6_remove_31 : decode cX6_remove 31 = .ok (.iload_n 3, 1) := by decide +kernel
theorem dX6_remove_32 : decode cX6_remove 32 = .ok (.iload 4, 2) := by decide +kernel
theorem dX6_remove_34 : decode cX6_remove 34 = .ok (.invokevirtual 210, 3) := by decide +kernel
theorem dX6_remove_37 : decode cX6_remove 37 = .ok (.ireturn, 1) := by decide +kernel
set_option maxRecDepth 20000 in
theorem ggX6_get_X6_transactionAt : GoodIn wsX6_get wsX6_transactionAt := goodIn_ca (goodIn_r _ [6, 7, 8, 9, 10, 11, 12, 13, 14, 15, 16, 17, 18, 19, 20, 21, 22, 23, 24, 25, 26, 27, 28, 29, 30, 31, 32, 33, 86, 87, 88, 89, 90, 91, 92, 93, 94, 95, 96] (by decide +kernel) (by decide +kernel)) (goodIn_sub (fun _ h => List.mem_cons_of_mem _ (List.mem_append_left _ (List.mem_append_left _ (List.mem_append_right _ h)))) (by decide +kernel))
set_option maxRecDepth 20000 in
theorem gX6_get_X6_transactionAt : GoodIn wsX6_get (wsV RX6 114 RX6 yX6_transactionAt wsX6_transactionAt) := goodIn_app (goodIn_of _ (by decide +kernel)) ggX6_get_X6_transactionAt
set_option maxRecDepth 20000 in
theorem ggX6_get_X6_storeAt : GoodIn wsX6_get wsX6_storeAt := goodIn_ca (goodIn_r _ [37, 7, 8, 38, 39, 86, 87, 88, 89, 90, 91, 92, 93, 97, 98, 99] (by decide +kernel) (by decide +kernel)) (goodIn_sub (fun _ h => List.mem_cons_of_mem _ (List.mem_append_left _ (List.mem_append_left _ (List.mem_append_right _ h)))) (by decide +kernel))
set_option maxRecDepth 20000 in
theorem gX6_get_X6_storeAt : GoodIn wsX6_get (wsV RX6 133 RX6 yX6_storeAt wsX6_storeAt) := goodIn_app (goodIn_of _ (by decide +kernel)) ggX6_get_X6_storeAt
set_option maxRecDepth 20000 in
theorem ggX6_get_X6_requireKey : GoodIn wsX6_get wsX6_requireKey := goodIn_ca (goodIn_r _ [42, 43, 44, 45, 46, 47, 48, 49, 50, 51, 52, 53, 54, 55, 56] (by decide +kernel) (by decide +kernel)) (goodIn_sub (fun _ h => List.mem_cons_of_mem _ (List.mem_append_left _ (List.mem_append_right _ h))) (by decide +kernel))
set_option maxRecDepth 20000 in
theorem gX6_get_X6_requireKey : GoodIn wsX6_get (va_wsS RX6 181 yX6_requireKey wsX6_requireKey) := goodIn_app (goodIn_of _ (by decide +kernel)) ggX6_get_X6_requireKey
set_option maxRecDepth 20000 in
theorem ggX6_get_X6_requireReading : GoodIn wsX6_get wsX6_requireReading := goodIn_ca (goodIn_r _ [59, 60, 61, 62, 63, 5, 64, 65, 66, 67, 68, 69, 70, 71, 100, 101, 102, 103] (by decide +kernel) (by decide +kernel)) (goodIn_sub (fun _ h => List.mem_cons_of_mem _ (List.mem_append_right _ h)) (by decide +kernel))
set_option maxRecDepth 20000 in
theorem gX6_get_X6_requireReading : GoodIn wsX6_get (va_wsS RX6 214 yX6_requireReading wsX6_requireReading) := goodIn_app (goodIn_of _ (by decide +kernel)) ggX6_get_X6_requireReading
set_option maxRecDepth 20000 in
theorem ggX6_get_X3_find : GoodIn wsX6_get wsX3_find := goodIn_r _ [76, 77, 78, 79, 80, 12, 13, 14, 15, 16, 81, 18, 19, 20, 21, 22, 23, 24, 25, 26, 27, 28, 29, 30, 31, 32, 33, 97, 98, 99, 82, 83, 84, 85, 94, 95, 96] (by decide +kernel) (by decide +kernel)
set_option maxRecDepth 20000 in
theorem gX6_get_X3_find : GoodIn wsX6_get (wsV RX6 193 RX3 yX3_find wsX3_find) := goodIn_app (goodIn_of _ (by decide +kernel)) ggX6_get_X3_find
theorem dX6_get_0 : decode cX6_get 0 = .ok (.aload_n 0, 1) := by decide +kernel
theorem dX6_get_1 : decode cX6_get 1 = .ok (.iload_n 1, 1) := by decide +kernel
theorem dX6_get_2 : decode cX6_get 2 = .ok (.invokevirtual 114, 3) := by decide +kernel
theorem dX6_get_5 : decode cX6_get 5 = .ok (.astore 4, 2) := by decide +kernel
theorem dX6_get_7 : decode cX6_get 7 = .ok (.aload_n 0, 1) := by decide +kernel
theorem dX6_get_8 : decode cX6_get 8 = .ok (.iload_n 2, 1) := by decide +kernel
theorem dX6_get_9 : decode cX6_get 9 = .ok (.invokevirtual 133, 3) := by decide +kernel
theorem dX6_get_12 : decode cX6_get 12 = .ok (.astore 5, 2) := by decide +kernel
theorem dX6_get_14 : decode cX6_get 14 = .ok (.iload_n 3, 1) := by decide +kernel
theorem dX6_get_15 : decode cX6_get 15 = .ok (.invokestatic 181, 3) := by decide +kernel
theorem dX6_get_18 : decode cX6_get 18 = .ok (.aload 4, 2) := by decide +kernel
theorem dX6_get_20 : decode cX6_get 20 = .ok (.iload_n 2, 1) := by decide +kernel
theorem dX6_get_21 : decode cX6_get 21 = .ok (.invokestatic 214, 3) := by decide +kernel
theorem dX6_get_24 : decode cX6_get 24 = .ok (.aload 5, 2) := by decide +kernel
theorem dX6_get_26 : decode cX6_get 26 = .ok (.iload_n 3, 1) := by decide +kernel
theorem dX6_get_27 : decode cX6_get 27 = .ok (.invokevirtual 193, 3) := by decide +kernel
theorem dX6_get_30 : decode cX6_get 30 = .ok (.astore 6, 2) := by decide +kernel
theorem dX6_get_32 : decode cX6_get 32 = .ok (.aload 6, 2) := by decide +kernel
theorem dX6_get_34 : decode cX6_get 34 = .ok (.ifnonnull 7, 3) := by decide +kernel
theorem dX6_get_37 : decode cX6_get 37 = .ok (.iconst (-1), 1) := by decide +kernel
theorem dX6_get_38 : decode cX6_get 38 = .ok (.goto 8, 3) := by decide +kernel
theorem dX6_get_41 : decode cX6_get 41 = .ok (.aload 6, 2) := by decide +kernel
theorem dX6_get_43 : decode cX6_get 43 = .ok (.getfield 217, 3) := by decide +kernel
theorem dX6_get_46 : decode cX6_get 46 = .ok (.ireturn, 1) := by decide +kernel
set_option maxRecDepth 20000 in
theorem ggX6_count_X6_transactionAt : GoodIn wsX6_count wsX6_transactionAt := goodIn_ca (goodIn_r _ [5, 6, 7, 8, 9, 10, 11, 12, 13, 14, 15, 16, 17, 18, 19, 20, 21, 22, 23, 24, 25, 26, 27, 28, 29, 30, 31, 32, 90, 91, 92, 93, 94, 95, 96, 97, 98, 99, 100] (by decide +kernel) (by decide +kernel)) (goodIn_sub (fun _ h => List.mem_cons_of_mem _ (List.mem_append_left _ (List.mem_append_left _ (List.mem_append_right _ h)))) (by decide +kernel))
set_option maxRecDepth 20000 in
theorem gX6_count_X6_transactionAt : GoodIn wsX6_count (wsV RX6 114 RX6 yX6_transactionAt wsX6_transactionAt) := goodIn_app (goodIn_of _ (by decide +kernel)) ggX6_count_X6_transactionAt
set_option maxRecDepth 20000 in
theorem ggX6_count_X6_storeAt : GoodIn wsX6_count wsX6_storeAt := goodIn_ca (goodIn_r _ [36, 6, 7, 37, 38, 90, 91, 92, 93, 94, 95, 96, 97, 101, 102, 103] (by decide +kernel) (by decide +kernel)) (goodIn_sub (fun _ h => List.mem_cons_of_mem _ (List.mem_append_left _ (List.mem_append_left _ (List.mem_append_right _ h)))) (by decide +kernel))
set_option maxRecDepth 20000 in
theorem gX6_count_X6_storeAt : GoodIn wsX6_count (wsV RX6 133 RX6 yX6_storeAt wsX6_storeAt) := goodIn_app (goodIn_of _ (by decide +kernel)) ggX6_count_X6_storeAt
set_option maxRecDepth 20000 in
theorem ggX6_count_X6_requireKey : GoodIn wsX6_count wsX6_requireKey := goodIn_ca (goodIn_r _ [41, 42, 43, 44, 45, 46, 47, 48, 49, 50, 51, 52, 53, 54, 55] (by decide +kernel) (by decide +kernel)) (goodIn_sub (fun _ h => List.mem_cons_of_mem _ (List.mem_append_left _ (List.mem_append_right _ h))) (by decide +kernel))
set_option maxRecDepth 20000 in
theorem gX6_count_X6_requireKey : GoodIn wsX6_count (va_wsS RX6 181 yX6_requireKey wsX6_requireKey) := goodIn_app (goodIn_of _ (by decide +kernel)) ggX6_count_X6_requireKey
set_option maxRecDepth 20000 in
theorem ggX6_count_X6_requireReading : GoodIn wsX6_count wsX6_requireReading := goodIn_ca (goodIn_r _ [58, 59, 60, 61, 62, 4, 63, 64, 65, 66, 67, 68, 69, 70, 104, 105, 106, 107] (by decide +kernel) (by decide +kernel)) (goodIn_sub (fun _ h => List.mem_cons_of_mem _ (List.mem_append_right _ h)) (by decide +kernel))
set_option maxRecDepth 20000 in
theorem gX6_count_X6_requireReading : GoodIn wsX6_count (va_wsS RX6 214 yX6_requireReading wsX6_requireReading) := goodIn_app (goodIn_of _ (by decide +kernel)) ggX6_count_X6_requireReading
set_option maxRecDepth 20000 in
theorem ggX6_count_X3_countBetween : GoodIn wsX6_count wsX3_countBetween := goodIn_r _ [75, 76, 77, 78, 11, 12, 13, 14, 15, 79, 17, 18, 19, 20, 21, 22, 23, 24, 25, 26, 27, 28, 29, 30, 31, 32, 80, 81, 82, 83, 84, 85, 86, 87, 46, 88, 49, 89, 101, 102, 103, 98, 99, 100, 108, 109, 110, 111] (by decide +kernel) (by decide +kernel)
set_option maxRecDepth 20000 in
theorem gX6_count_X3_countBetween : GoodIn wsX6_count (wsV RX6 220 RX3 yX3_countBetween wsX3_countBetween) := goodIn_app (goodIn_of _ (by decide +kernel)) ggX6_count_X3_countBetween
theorem dX6_count_0 : decode cX6_count 0 = .ok (.aload_n 0, 1) := by decide +kernel
theorem dX6_count_1 : decode cX6_count 1 = .ok (.iload_n 1, 1) := by decide +kernel
theorem dX6_count_2 : decode cX6_count 2 = .ok (.invokevirtual 114, 3) := by decide +kernel
theorem dX6_count_5 : decode cX6_count 5 = .ok (.astore 5, 2) := by decide +kernel
theorem dX6_count_7 : decode cX6_count 7 = .ok (.aload_n 0, 1) := by decide +kernel
theorem dX6_count_8 : decode cX6_count 8 = .ok (.iload_n 2, 1) := by decide +kernel
theorem dX6_count_9 : decode cX6_count 9 = .ok (.invokevirtual 133, 3) := by decide +kernel
theorem dX6_count_12 : decode cX6_count 12 = .ok (.astore 6, 2) := by decide +kernel
theorem dX6_count_14 : decode cX6_count 14 = .ok (.iload_n 3, 1) := by decide +kernel
theorem dX6_count_15 : decode cX6_count 15 = .ok (.invokestatic 181, 3) := by decide +kernel
theorem dX6_count_18 : decode cX6_count 18 = .ok (.iload 4, 2) := by decide +kernel
theorem dX6_count_20 : decode cX6_count 20 = .ok (.invokestatic 181, 3) := by decide +kernel
theorem dX6_count_23 : decode cX6_count 23 = .ok (.aload 5, 2) := by decide +kernel
theorem dX6_count_25 : decode cX6_count 25 = .ok (.iload_n 2, 1) := by decide +kernel
theorem dX6_count_26 : decode cX6_count 26 = .ok (.invokestatic 214, 3) := by decide +kernel
theorem dX6_count_29 : decode cX6_count 29 = .ok (.aload 6, 2) := by decide +kernel
theorem dX6_count_31 : decode cX6_count 31 = .ok (.iload_n 3, 1) := by decide +kernel
theorem dX6_count_32 : decode cX6_count 32 = .ok (.iload 4, 2) := by decide +kernel
theorem dX6_count_34 : decode cX6_count 34 = .ok (.invokevirtual 220, 3) := by decide +kernel
theorem dX6_count_37 : decode cX6_count 37 = .ok (.ireturn, 1) := by decide +kernel
set_option maxRecDepth 20000 in
theorem ggX6_cursor_X6_transactionAt : GoodIn wsX6_cursor wsX6_transactionAt := goodIn_ca (goodIn_r _ [13, 1, 2, 14, 15, 16, 17, 18, 19, 20, 21, 22, 23, 24, 25, 26, 27, 28, 29, 30, 31, 32, 33, 34, 35, 36, 37, 38, 136, 137, 138, 139, 140, 141, 142, 143, 152, 153, 154] (by decide +kernel) (by decide +kernel)) (goodIn_sub (fun _ h => List.mem_cons_of_mem _ (List.mem_append_left _ (List.mem_append_left _ (List.mem_append_right _ h)))) (by decide +kernel))
set_option maxRecDepth 20000 in
theorem gX6_cursor_X6_transactionAt : GoodIn wsX6_cursor (wsV RX6 114 RX6 yX6_transactionAt wsX6_transactionAt) := goodIn_app (goodIn_of _ (by decide +kernel)) ggX6_cursor_X6_transactionAt
set_option maxRecDepth 20000 in
theorem ggX6_cursor_X6_storeAt : GoodIn wsX6_cursor wsX6_storeAt := goodIn_ca (goodIn_r _ [42, 1, 2, 43, 44, 136, 137, 138, 139, 140, 141, 142, 143, 155, 156, 157] (by decide +kernel) (by decide +kernel)) (goodIn_sub (fun _ h => List.mem_cons_of_mem _ (List.mem_append_left _ (List.mem_append_left _ (List.mem_append_right _ h)))) (by decide +kernel))
set_option maxRecDepth 20000 in
theorem gX6_cursor_X6_storeAt : GoodIn wsX6_cursor (wsV RX6 133 RX6 yX6_storeAt wsX6_storeAt) := goodIn_app (goodIn_of _ (by decide +kernel)) ggX6_cursor_X6_storeAt
set_option maxRecDepth 20000 in
theorem ggX6_cursor_X6_requireInRange : GoodIn wsX6_cursor wsX6_requireInRange := goodIn_ca (goodIn_r _ [47, 48, 49] (by decide +kernel) (by decide +kernel)) (goodIn_sub (fun _ h => List.mem_cons_of_mem _ (List.mem_append_right _ h)) (by decide +kernel))
set_option maxRecDepth 20000 in
theorem gX6_cursor_X6_requireInRange : GoodIn wsX6_cursor (va_wsS RX6 50 yX6_requireInRange wsX6_requireInRange) := goodIn_app (goodIn_of _ (by decide +kernel)) ggX6_cursor_X6_requireInRange
set_option maxRecDepth 20000 in
theorem ggX6_cursor_X6_requireReading : GoodIn wsX6_cursor wsX6_requireReading := goodIn_ca (goodIn_r _ [52, 3, 4, 53, 54, 12, 55, 56, 57, 58, 59, 60, 61, 62, 158, 159, 160, 161] (by decide +kernel) (by decide +kernel)) (goodIn_sub (fun _ h => List.mem_cons_of_mem _ (List.mem_append_left _ (List.mem_append_right _ h))) (by decide +kernel))
set_option maxRecDepth 20000 in
theorem gX6_cursor_X6_requireReading : GoodIn wsX6_cursor (va_wsS RX6 214 yX6_requireReading wsX6_requireReading) := goodIn_app (goodIn_of _ (by decide +kernel)) ggX6_cursor_X6_requireReading
set_option maxRecDepth 20000 in
theorem ggX6_cursor_X3_hasIndex : GoodIn wsX6_cursor wsX3_hasIndex := goodIn_r _ [67, 68, 155, 156, 157] (by decide +kernel) (by decide +kernel)
set_option maxRecDepth 20000 in
theorem gX6_cursor_X3_hasIndex : GoodIn wsX6_cursor (wsV RX6 143 RX3 yX3_hasIndex wsX3_hasIndex) := goodIn_app (goodIn_of _ (by decide +kernel)) ggX6_cursor_X3_hasIndex
set_option maxRecDepth 20000 in
theorem ggX6_cursor_Jx4a65c_size_8abf5 : GoodIn wsX6_cursor wsJx4a65c_size_8abf5 := goodIn_r _ [20, 21, 152, 153, 154] (by decide +kernel) (by decide +kernel)
set_option maxRecDepth 20000 in
theorem gX6_cursor_Jx4a65c_size_8abf5_f83Jx4a65c : GoodIn wsX6_cursor (va_wsF RX6 83 RJx4a65c ⟨"java/util/List", "size", "()I"⟩ yJx4a65c_size_8abf5 wsJx4a65c_size_8abf5) := goodIn_app (goodIn_of _ (by decide +kernel)) ggX6_cursor_Jx4a65c_size_8abf5
set_option maxRecDepth 20000 in
theorem ggX6_cursor_X0_init : GoodIn wsX6_cursor wsX0_init := goodIn_r _ [71, 72, 73, 74, 75, 76, 77, 78, 79, 80, 81, 82, 144, 145, 146, 147, 148, 149, 150, 151] (by decide +kernel) (by decide +kernel)
set_option maxRecDepth 20000 in
theorem gX6_cursor_X0_init : GoodIn wsX6_cursor (wsX0_init) := ggX6_cursor_X0_init
set_option maxRecDepth 20000 in
theorem ggX6_cursor_Jx4a65c_add_9ea2d : GoodIn wsX6_cursor wsJx4a65c_add_9ea2d := goodIn_r _ [86, 87, 88, 38, 21, 89, 90, 91, 19, 92, 93, 94, 95, 96, 97, 98, 99, 100, 101, 102, 103, 104, 105, 106, 107, 108, 109, 110, 111, 112, 113, 114, 115, 116, 117, 118, 119, 120, 121, 122, 123, 124, 125, 126, 127, 128, 129, 130, 131, 132, 133, 134, 135, 152, 153, 154] (by decide +kernel) (by decide +kernel)
set_option maxRecDepth 20000 in
theorem gX6_cursor_Jx4a65c_add_9ea2d_f169Jx4a65c : GoodIn wsX6_cursor (va_wsF RX6 169 RJx4a65c ⟨"java/util/List", "add", "(Ljava/lang/Object;)Z"⟩ yJx4a65c_add_9ea2d wsJx4a65c_add_9ea2d) := goodIn_app (goodIn_of _ (by decide +kernel)) ggX6_cursor_Jx4a65c_add_9ea2d
theorem dX6_cursor_0 : decode cX6_cursor 0 = .ok (.aload_n 0, 1) := by decide +kernel
theorem dX6_cursor_1 : decode cX6_cursor 1 = .ok (.iload_n 1, 1) := by decide +kernel
theorem dX6_cursor_2 : decode cX6_cursor 2 = .ok (.invokevirtual 114, 3) := by decide +kernel
theorem dX6_cursor_5 : decode cX6_cursor 5 = .ok (.astore 5, 2) := by decide +kernel
theorem dX6_cursor_7 : decode cX6_cursor 7 = .ok (.aload_n 0, 1) := by decide +kernel
theorem dX6_cursor_8 : decode cX6_cursor 8 = .ok (.iload_n 2, 1) := by decide +kernel
theorem dX6_cursor_9 : decode cX6_cursor 9 = .ok (.invokevirtual 133, 3) := by decide +kernel
theorem dX6_cursor_12 : decode cX6_cursor 12 = .ok (.astore 6, 2) := by decide +kernel
theorem dX6_cursor_14 : decode cX6_cursor 14 = .ok (.iload_n 3, 1) := by decide +kernel
theorem dX6_cursor_15 : decode cX6_cursor 15 = .ok (.iconst (-1), 1) := by decide +kernel
theorem dX6_cursor_16 : decode cX6_cursor 16 = .ok (.if_icmp .eq 22, 3) := by decide +kernel
theorem dX6_cursor_19 : decode cX6_cursor 19 = .ok (.iload_n 3, 1) := by decide +kernel
theorem dX6_cursor_20 : decode cX6_cursor 20 = .ok (.ifCond .lt 8, 3) := by decide +kernel
theorem dX6_cursor_23 : decode cX6_cursor 23 = .ok (.iload_n 3, 1) := by decide +kernel
theorem dX6_cursor_24 : decode cX6_cursor 24 = .ok (.iconst 2, 1) := by decide +kernel
theorem dX6_cursor_25 : decode cX6_cursor 25 = .ok (.if_icmp .lt 13, 3) := by decide +kernel
theorem dX6_cursor_28 : decode cX6_cursor 28 = .ok (.new 118, 3) := by decide +kernel
theorem dX6_cursor_31 : decode cX6_cursor 31 = .ok (.dup, 1) := by decide +kernel
theorem dX6_cursor_32 : decode cX6_cursor 32 = .ok (.ldc 141, 2) := by decide +kernel
theorem dX6_cursor_34 : decode cX6_cursor 34 = .ok (.invokespecial 122, 3) := by decide +kernel
theorem dX6_cursor_37 : decode cX6_cursor 37 = .ok (.athrow, 1) := by decide +kernel
theorem dX6_cursor_38 : decode cX6_cursor 38 = .ok (.iload 4, 2) := by decide +kernel
theorem dX6_cursor_40 : decode cX6_cursor 40 = .ok (.iconst 0, 1) := by decide +kernel
theorem dX6_cursor_41 : decode cX6_cursor 41 = .ok (.iconst 3, 1) := by decide +kernel
theorem dX6_cursor_42 : decode cX6_cursor 42 = .ok (.invokestatic 50, 3) := by decide +kernel
theorem dX6_cursor_45 : decode cX6_cursor 45 = .ok (.aload 5, 2) := by decide +kernel
theorem dX6_cursor_47 : decode cX6_cursor 47 = .ok (.iload_n 2, 1) := by decide +kernel
theorem dX6_cursor_48 : decode cX6_cursor 48 = .ok (.invokestatic 214, 3) := by decide +kernel
theorem dX6_cursor_51 : decode cX6_cursor 51 = .ok (.iload_n 3, 1) := by decide +kernel
theorem dX6_cursor_52 : decode cX6_cursor 52 = .ok (.iconst (-1), 1) := by decide +kernel
theorem dX6_cursor_53 : decode cX6_cursor 53 = .ok (.if_icmp .eq 12, 3) := by decide +kernel
theorem dX6_cursor_56 : decode cX6_cursor 56 = .ok (.aload 6, 2) := by decide +kernel
theorem dX6_cursor_58 : decode cX6_cursor 58 = .ok (.iload_n 3, 1) := by decide +kernel
theorem dX6_cursor_59 : decode cX6_cursor 59 = .ok (.invokevirtual 143, 3) := by decide +kernel
theorem dX6_cursor_62 : decode cX6_cursor 62 = .ok (.ifCond .eq 17, 3) := by decide +kernel
theorem dX6_cursor_65 : decode cX6_cursor 65 = .ok (.aload_n 0, 1) := by decide +kernel
theorem dX6_cursor_66 : decode cX6_cursor 66 = .ok (.getfield 31, 3) := by decide +kernel
theorem dX6_cursor_69 : decode cX6_cursor 69 = .ok (.invokeinterface 83 1, 5) := by decide +kernel
theorem dX6_cursor_74 : decode cX6_cursor 74 = .ok (.bipush 40, 2) := by decide +kernel
theorem dX6_cursor_76 : decode cX6_cursor 76 = .ok (.if_icmp .lt 13, 3) := by decide +kernel
theorem dX6_cursor_79 : decode cX6_cursor 79 = .ok (.new 58, 3) := by decide +kernel
theorem dX6_cursor_82 : decode cX6_cursor 82 = .ok (.dup, 1) := by decide +kernel
theorem dX6_cursor_83 : decode cX6_cursor 83 = .ok (.ldc 223, 2) := by decide +kernel
theorem dX6_cursor_85 : decode cX6_cursor 85 = .ok (.invokespecial 62, 3) := by decide +kernel
theorem dX6_cursor_88 : decode cX6_cursor 88 = .ok (.athrow, 1) := by decide +kernel
theorem dX6_cursor_89 : decode cX6_cursor 89 = .ok (.aload_n 0, 1) := by decide +kernel
theorem dX6_cursor_90 : decode cX6_cursor 90 = .ok (.getfield 31, 3) := by decide +kernel
theorem dX6_cursor_93 : decode cX6_cursor 93 = .ok (.invokeinterface 83 1, 5) := by decide +kernel
theorem dX6_cursor_98 : decode cX6_cursor 98 = .ok (.istore 7, 2) := by decide +kernel
theorem dX6_cursor_100 : decode cX6_cursor 100 = .ok (.aload_n 0, 1) := by decide +kernel
theorem dX6_cursor_101 : decode cX6_cursor 101 = .ok (.getfield 31, 3) := by decide +kernel
theorem dX6_cursor_104 : decode cX6_cursor 104 = .ok (.new 225, 3) := by decide +kernel
theorem dX6_cursor_107 : decode cX6_cursor 107 = .ok (.dup, 1) := by decide +kernel
theorem dX6_cursor_108 : decode cX6_cursor 108 = .ok (.aload 5, 2) := by decide +kernel
theorem dX6_cursor_110 : decode cX6_cursor 110 = .ok (.aload 6, 2) := by decide +kernel
theorem dX6_cursor_112 : decode cX6_cursor 112 = .ok (.iload_n 3, 1) := by decide +kernel
theorem dX6_cursor_113 : decode cX6_cursor 113 = .ok (.iload 4, 2) := by decide +kernel
theorem dX6_cursor_115 : decode cX6_cursor 115 = .ok (.invokespecial 227, 3) := by decide +kernel
theorem dX6_cursor_118 : decode cX6_cursor 118 = .ok (.invokeinterface 169 2, 5) := by decide +kernel
theorem dX6_cursor_123 : decode cX6_cursor 123 = .ok (.pop, 1) := by decide +kernel
theorem dX6_cursor_124 : decode cX6_cursor 124 = .ok (.iload 7, 2) := by decide +kernel
theorem dX6_cursor_126 : decode cX6_cursor 126 = .ok (.ireturn, 1) := by decide +kernel
set_option maxRecDepth 20000 in
theorem ggX6_step_X6_cursorAt : GoodIn wsX6_step wsX6_cursorAt := goodIn_ca (goodIn_r _ [12, 13, 14, 15, 16, 17, 18, 19, 20, 21, 22, 23, 24, 25, 26, 27, 28, 29, 30, 31, 32, 33, 34, 35, 36, 37, 38, 39, 123, 124, 125, 126, 127, 128, 129, 130, 131, 132, 133] (by decide +kernel) (by decide +kernel)) (goodIn_sub (fun _ h => List.mem_cons_of_mem _ (List.mem_append_right _ h)) (by decide +kernel))
set_option maxRecDepth 20000 in
theorem gX6_step_X6_cursorAt : GoodIn wsX6_step (wsV RX6 230 RX6 yX6_cursorAt wsX6_cursorAt) := goodIn_app (goodIn_of _ (by decide +kernel)) ggX6_step_X6_cursorAt
set_option maxRecDepth 20000 in
theorem ggX6_step_X6_requireRunning : GoodIn wsX6_step wsX6_requireRunning := goodIn_ca (goodIn_r _ [42, 1, 2, 43, 134, 135, 136, 137] (by decide +kernel) (by decide +kernel)) (goodIn_sub (fun _ h => List.mem_cons_of_mem _ (List.mem_append_left _ (List.mem_append_right _ h))) (by decide +kernel))
set_option maxRecDepth 20000 in
theorem gX6_step_X6_requireRunning : GoodIn wsX6_step (va_wsS RX6 176 yX6_requireRunning wsX6_requireRunning) := goodIn_app (goodIn_of _ (by decide +kernel)) ggX6_step_X6_requireRunning
set_option maxRecDepth 20000 in
theorem ggX6_step_X0_nextRow : GoodIn wsX6_step wsX0_nextRow := goodIn_r _ [48, 49, 50, 51, 52, 47, 53, 54, 55, 56, 57, 58, 59, 60, 61, 62, 63, 64, 65, 66, 67, 68, 69, 70, 71, 72, 18, 19, 20, 21, 22, 73, 24, 25, 26, 27, 28, 29, 30, 31, 32, 33, 34, 35, 36, 37, 38, 39, 74, 75, 76, 77, 78, 79, 80, 81, 82, 83, 84, 85, 86, 87, 88, 89, 90, 91, 92, 93, 94, 95, 96, 97, 98, 99, 100, 101, 108, 109, 110, 111, 112, 113, 114, 115, 116, 117, 118, 131, 132, 133, 119, 120, 121, 122] (by decide +kernel) (by decide +kernel)
set_option maxRecDepth 20000 in
theorem gX6_step_X0_nextRow : GoodIn wsX6_step (wsV RX6 245 RX0 yX0_nextRow wsX0_nextRow) := goodIn_app (goodIn_of _ (by decide +kernel)) ggX6_step_X0_nextRow
set_option maxRecDepth 20000 in
theorem ggX6_step_X0_moveTo : GoodIn wsX6_step wsX0_moveTo := goodIn_r _ [105, 55, 106, 107, 59, 57, 92, 75, 76, 62, 77, 78, 79, 64, 80, 81, 82, 83, 84, 85, 86, 87, 88, 89, 90, 91, 108, 109, 110, 111, 112, 113, 114, 115, 119, 120, 121, 122] (by decide +kernel) (by decide +kernel)
set_option maxRecDepth 20000 in
theorem gX6_step_X0_moveTo : GoodIn wsX6_step (wsV RX6 249 RX0 yX0_moveTo wsX0_moveTo) := goodIn_app (goodIn_of _ (by decide +kernel)) ggX6_step_X0_moveTo
theorem dX6_step_0 : decode cX6_step 0 = .ok (.aload_n 0, 1) := by decide +kernel
theorem dX6_step_1 : decode cX6_step 1 = .ok (.iload_n 1, 1) := by decide +kernel
theorem dX6_step_2 : decode cX6_step 2 = .ok (.invokevirtual 230, 3) := by decide +kernel
theorem dX6_step_5 : decode cX6_step 5 = .ok (.astore_n 2, 1) := by decide +kernel
theorem dX6_step_6 : decode cX6_step 6 = .ok (.aload_n 2, 1) := by decide +kernel
theorem dX6_step_7 : decode cX6_step 7 = .ok (.getfield 234, 3) := by decide +kernel
theorem dX6_step_10 : decode cX6_step 10 = .ok (.invokestatic 176, 3) := by decide +kernel
theorem dX6_step_13 : decode cX6_step 13 = .ok (.aload_n 2, 1) := by decide +kernel
theorem dX6_step_14 : decode cX6_step 14 = .ok (.getfield 238, 3) := by decide +kernel
theorem dX6_step_17 : decode cX6_step 17 = .ok (.getfield 127, 3) := by decide +kernel
theorem dX6_step_20 : decode cX6_step 20 = .ok (.ifCond .eq 11, 3) := by decide +kernel
theorem dX6_step_23 : decode cX6_step 23 = .ok (.aload_n 2, 1) := by decide +kernel
theorem dX6_step_24 : decode cX6_step 24 = .ok (.getfield 242, 3) := by decide +kernel
theorem dX6_step_27 : decode cX6_step 27 = .ok (.iconst 2, 1) := by decide +kernel
theorem dX6_step_28 : decode cX6_step 28 = .ok (.if_icmp .ne 13, 3) := by decide +kernel
theorem dX6_step_31 : decode cX6_step 31 = .ok (.new 58, 3) := by decide +kernel
theorem dX6_step_34 : decode cX6_step 34 = .ok (.dup, 1) := by decide +kernel
theorem dX6_step_35 : decode cX6_step 35 = .ok (.ldc 243, 2) := by decide +kernel
theorem dX6_step_37 : decode cX6_step 37 = .ok (.invokespecial 62, 3) := by decide +kernel
theorem dX6_step_40 : decode cX6_step 40 = .ok (.athrow, 1) := by decide +kernel
theorem dX6_step_41 : decode cX6_step 41 = .ok (.aload_n 2, 1) := by decide +kernel
theorem dX6_step_42 : decode cX6_step 42 = .ok (.invokevirtual 245, 3) := by decide +kernel
theorem dX6_step_45 : decode cX6_step 45 = .ok (.astore_n 3, 1) := by decide +kernel
theorem dX6_step_46 : decode cX6_step 46 = .ok (.aload_n 2, 1) := by decide +kernel
theorem dX6_step_47 : decode cX6_step 47 = .ok (.aload_n 3, 1) := by decide +kernel
theorem dX6_step_48 : decode cX6_step 48 = .ok (.invokevirtual 249, 3) := by decide +kernel
theorem dX6_step_51 : decode cX6_step 51 = .ok (.aload_n 3, 1) := by decide +kernel
theorem dX6_step_52 : decode cX6_step 52 = .ok (.ifnonnull 7, 3) := by decide +kernel
theorem dX6_step_55 : decode cX6_step 55 = .ok (.iconst (-1), 1) := by decide +kernel
theorem dX6_step_56 : decode cX6_step 56 = .ok (.goto 7, 3) := by decide +kernel
theorem dX6_step_59 : decode cX6_step 59 = .ok (.aload_n 3, 1) := by decide +kernel
theorem dX6_step_60 : decode cX6_step 60 = .ok (.getfield 252, 3) := by decide +kernel
theorem dX6_step_63 : decode cX6_step 63 = .ok (.ireturn, 1) := by decide +kernel
set_option maxRecDepth 20000 in
theorem ggX6_update_X6_cursorAt : GoodIn wsX6_update wsX6_cursorAt := goodIn_ca (goodIn_r _ [19, 20, 21, 22, 23, 24, 25, 26, 27, 28, 29, 30, 31, 32, 33, 34, 35, 36, 37, 38, 39, 40, 41, 42, 43, 44, 45, 46, 153, 154, 155, 156, 157, 158, 159, 160, 161, 162, 163] (by decide +kernel) (by decide +kernel)) (goodIn_sub (fun _ h => List.mem_cons_of_mem _ (List.mem_append_left _ (List.mem_append_right _ h))) (by decide +kernel))
set_option maxRecDepth 20000 in
theorem gX6_update_X6_cursorAt : GoodIn wsX6_update (wsV RX6 230 RX6 yX6_cursorAt wsX6_cursorAt) := goodIn_app (goodIn_of _ (by decide +kernel)) ggX6_update_X6_cursorAt
set_option maxRecDepth 20000 in
theorem ggX6_update_X6_requireInRange : GoodIn wsX6_update wsX6_requireInRange := goodIn_ca (goodIn_r _ [49, 50, 51] (by decide +kernel) (by decide +kernel)) (goodIn_sub (fun _ h => List.mem_cons_of_mem _ (List.mem_append_right _ h)) (by decide +kernel))
set_option maxRecDepth 20000 in
theorem gX6_update_X6_requireInRange : GoodIn wsX6_update (va_wsS RX6 50 yX6_requireInRange wsX6_requireInRange) := goodIn_app (goodIn_of _ (by decide +kernel)) ggX6_update_X6_requireInRange
set_option maxRecDepth 20000 in
theorem ggX6_update_X6_requireRunning : GoodIn wsX6_update wsX6_requireRunning := goodIn_ca (goodIn_r _ [54, 1, 2, 55, 145, 146, 147, 148] (by decide +kernel) (by decide +kernel)) (goodIn_sub (fun _ h => List.mem_cons_of_mem _ (List.mem_append_left _ (List.mem_append_left _ (List.mem_append_right _ h)))) (by decide +kernel))
set_option maxRecDepth 20000 in
theorem gX6_update_X6_requireRunning : GoodIn wsX6_update (va_wsS RX6 176 yX6_requireRunning wsX6_requireRunning) := goodIn_app (goodIn_of _ (by decide +kernel)) ggX6_update_X6_requireRunning
set_option maxRecDepth 20000 in
theorem ggX6_update_X3_find : GoodIn wsX6_update wsX3_find := goodIn_r _ [60, 61, 62, 63, 64, 25, 26, 27, 28, 29, 65, 31, 32, 33, 34, 35, 36, 37, 38, 39, 40, 41, 42, 43, 44, 45, 46, 164, 165, 166, 149, 150, 151, 152, 161, 162, 163] (by decide +kernel) (by decide +kernel)
set_option maxRecDepth 20000 in
theorem gX6_update_X3_find : GoodIn wsX6_update (wsV RX6 193 RX3 yX3_find wsX3_find) := goodIn_app (goodIn_of _ (by decide +kernel)) ggX6_update_X3_find
set_option maxRecDepth 20000 in
theorem ggX6_update_X2_init : GoodIn wsX6_update wsX2_init := goodIn_r _ [68, 69, 70, 71, 72, 73, 74, 75, 149, 150, 151, 152] (by decide +kernel) (by decide +kernel)
set_option maxRecDepth 20000 in
theorem gX6_update_X2_init : GoodIn wsX6_update (wsX2_init) := ggX6_update_X2_init
set_option maxRecDepth 20000 in
theorem ggX6_update_X3_set : GoodIn wsX6_update wsX3_set := goodIn_r _ [79, 61, 62, 63, 64, 25, 26, 27, 28, 29, 65, 31, 32, 33, 34, 35, 36, 37, 38, 39, 40, 41, 42, 43, 44, 45, 46, 80, 81, 82, 83, 84, 85, 86, 87, 88, 89, 90, 91, 92, 93, 94, 95, 96, 97, 98, 99, 100, 101, 102, 103, 104, 105, 106, 107, 108, 109, 110, 111, 112, 113, 114, 115, 116, 117, 118, 119, 120, 121, 122, 123, 124, 125, 126, 127, 128, 129, 130, 131, 132, 133, 134, 135, 136, 164, 165, 166, 149, 150, 151, 152, 161, 162, 163] (by decide +kernel) (by decide +kernel)
set_option maxRecDepth 20000 in
theorem gX6_update_X3_set : GoodIn wsX6_update (wsV RX6 206 RX3 yX3_set wsX3_set) := goodIn_app (goodIn_of _ (by decide +kernel)) ggX6_update_X3_set
theorem dX6_update_0 : decode cX6_update 0 = .ok (.aload_n 0, 1) := by decide +kernel
theorem dX6_update_1 : decode cX6_update 1 = .ok (.iload_n 1, 1) := by decide +kernel
theorem dX6_update_2 : decode cX6_update 2 = .ok (.invokevirtual 230, 3) := by decide +kernel
theorem dX6_update_5 : decode cX6_update 5 = .ok (.astore_n 3, 1) := by decide +kernel
theorem dX6_update_6 : decode cX6_update 6 = .ok (.iload_n 2, 1) := by decide +kernel
theorem dX6_update_7 : decode cX6_update 7 = .ok (.iconst 0, 1) := by decide +kernel
theorem dX6_update_8 : decode cX6_update 8 = .ok (.sipush 9999, 3) := by decide +kernel
theorem dX6_update_11 : decode cX6_update 11 = .ok (.invokestatic 50, 3) := by decide +kernel
theorem dX6_update_14 : decode cX6_update 14 = .ok (.aload_n 3, 1) := by decide +kernel
theorem dX6_update_15 : decode cX6_update 15 = .ok (.getfield 234, 3) := by decide +kernel
theorem dX6_update_18 : decode cX6_update 18 = .ok (.invokestatic 176, 3) := by decide +kernel
theorem dX6_update_21 : decode cX6_update 21 = .ok (.aload_n 3, 1) := by decide +kernel
theorem dX6_update_22 : decode cX6_update 22 = .ok (.getfield 234, 3) := by decide +kernel
theorem dX6_update_25 : decode cX6_update 25 = .ok (.getfield 255, 3) := by decide +kernel
theorem dX6_update_28 : decode cX6_update 28 = .ok (.ifCond .eq 11, 3) := by decide +kernel
theorem dX6_update_31 : decode cX6_update 31 = .ok (.aload_n 3, 1) := by decide +kernel
theorem dX6_update_32 : decode cX6_update 32 = .ok (.getfield 242, 3) := by decide +kernel
theorem dX6_update_35 : decode cX6_update 35 = .ok (.iconst 1, 1) := by decide +kernel
theorem dX6_update_36 : decode cX6_update 36 = .ok (.if_icmp .eq 14, 3) := by decide +kernel
theorem dX6_update_39 : decode cX6_update 39 = .ok (.new 58, 3) := by decide +kernel
theorem dX6_update_42 : decode cX6_update 42 = .ok (.dup, 1) := by decide +kernel
theorem dX6_update_43 : decode cX6_update 43 = .ok (.ldc_w 258, 3) := by decide +kernel
theorem dX6_update_46 : decode cX6_update 46 = .ok (.invokespecial 62, 3) := by decide +kernel
theorem dX6_update_49 : decode cX6_update 49 = .ok (.athrow, 1) := by decide +kernel
theorem dX6_update_50 : decode cX6_update 50 = .ok (.aload_n 3, 1) := by decide +kernel
theorem dX6_update_51 : decode cX6_update 51 = .ok (.getfield 238, 3) := by decide +kernel
theorem dX6_update_54 : decode cX6_update 54 = .ok (.aload_n 3, 1) := by decide +kernel
theorem dX6_update_55 : decode cX6_update 55 = .ok (.getfield 260, 3) := by decide +kernel
theorem dX6_update_58 : decode cX6_update 58 = .ok (.invokevirtual 193, 3) := by decide +kernel
theorem dX6_update_61 : decode cX6_update 61 = .ok (.astore 4, 2) := by decide +kernel
theorem dX6_update_63 : decode cX6_update 63 = .ok (.aload 4, 2) := by decide +kernel
theorem dX6_update_65 : decode cX6_update 65 = .ok (.ifnonnull 14, 3) := by decide +kernel
theorem dX6_update_68 : decode cX6_update 68 = .ok (.new 58, 3) := by decide +kernel
theorem dX6_update_71 : decode cX6_update 71 = .ok (.dup, 1) := by decide +kernel
theorem dX6_update_72 : decode cX6_update 72 = .ok (.ldc_w 261, 3) := by decide +kernel
theorem dX6_update_75 : decode cX6_update 75 = .ok (.invokespecial 62, 3) := by decide +kernel
theorem dX6_update_78 : decode cX6_update 78 = .ok (.athrow, 1) := by decide +kernel
theorem dX6_update_79 : decode cX6_update 79 = .ok (.aload_n 3, 1) := by decide +kernel
theorem dX6_update_80 : decode cX6_update 80 = .ok (.getfield 238, 3) := by decide +kernel
theorem dX6_update_83 : decode cX6_update 83 = .ok (.new 188, 3) := by decide +kernel
theorem dX6_update_86 : decode cX6_update 86 = .ok (.dup, 1) := by decide +kernel
theorem dX6_update_87 : decode cX6_update 87 = .ok (.aload 4, 2) := by decide +kernel
theorem dX6_update_89 : decode cX6_update 89 = .ok (.getfield 252, 3) := by decide +kernel
theorem dX6_update_92 : decode cX6_update 92 = .ok (.iload_n 2, 1) := by decide +kernel
theorem dX6_update_93 : decode cX6_update 93 = .ok (.aload 4, 2) := by decide +kernel
theorem dX6_update_95 : decode cX6_update 95 = .ok (.getfield 263, 3) := by decide +kernel
theorem dX6_update_98 : decode cX6_update 98 = .ok (.aload 4, 2) := by decide +kernel
theorem dX6_update_100 : decode cX6_update 100 = .ok (.getfield 266, 3) := by decide +kernel
theorem dX6_update_103 : decode cX6_update 103 = .ok (.invokespecial 190, 3) := by decide +kernel
theorem dX6_update_106 : decode cX6_update 106 = .ok (.invokevirtual 206, 3) := by decide +kernel
theorem dX6_update_109 : decode cX6_update 109 = .ok (.aload 4, 2) := by decide +kernel
theorem dX6_update_111 : decode cX6_update 111 = .ok (.getfield 217, 3) := by decide +kernel
theorem dX6_update_114 : decode cX6_update 114 = .ok (.ireturn, 1) := by decide +kernel
theorem dX6_tabAt_0 : decode cX6_tabAt 0 = .ok (.iload_n 1, 1) := by decide +kernel
theorem dX6_tabAt_1 : decode cX6_tabAt 1 = .ok (.ifCond .lt 12, 3) := by decide +kernel
theorem dX6_tabAt_4 : decode cX6_tabAt 4 = .ok (.iload_n 1, 1) := by decide +kernel
theorem dX6_tabAt_5 : decode cX6_tabAt 5 = .ok (.aload_n 0, 1) := by decide +kernel
theorem dX6_tabAt_6 : decode cX6_tabAt 6 = .ok (.getfield 11, 3) := by decide +kernel
theorem dX6_tabAt_9 : decode cX6_tabAt 9 = .ok (.arraylength, 1) := by decide +kernel
theorem dX6_tabAt_10 : decode cX6_tabAt 10 = .ok (.if_icmp .lt 14, 3) := by decide +kernel
theorem dX6_tabAt_13 : decode cX6_tabAt 13 = .ok (.new 118, 3) := by decide +kernel
theorem dX6_tabAt_16 : decode cX6_tabAt 16 = .ok (.dup, 1) := by decide +kernel
theorem dX6_tabAt_17 : decode cX6_tabAt 17 = .ok (.ldc_w 269, 3) := by decide +kernel
theorem dX6_tabAt_20 : decode cX6_tabAt 20 = .ok (.invokespecial 122, 3) := by decide +kernel
theorem dX6_tabAt_23 : decode cX6_tabAt 23 = .ok (.athrow, 1) := by decide +kernel
theorem dX6_tabAt_24 : decode cX6_tabAt 24 = .ok (.aload_n 0, 1) := by decide +kernel
theorem dX6_tabAt_25 : decode cX6_tabAt 25 = .ok (.getfield 11, 3) := by decide +kernel
theorem dX6_tabAt_28 : decode cX6_tabAt 28 = .ok (.iload_n 1, 1) := by decide +kernel
theorem dX6_tabAt_29 : decode cX6_tabAt 29 = .ok (.aaload, 1) := by decide +kernel
theorem dX6_tabAt_30 : decode cX6_tabAt 30 = .ok (.areturn, 1) := by decide +kernel
set_option maxRecDepth 20000 in
theorem ggX6_transactionAt_Jx4a65c_size_8abf5 : GoodIn wsX6_transactionAt wsJx4a65c_size_8abf5 := goodIn_r _ [9, 10, 36, 37, 38] (by decide +kernel) (by decide +kernel)
set_option maxRecDepth 20000 in
theorem gX6_transactionAt_Jx4a65c_size_8abf5_f83Jx4a65c : GoodIn wsX6_transactionAt (va_wsF RX6 83 RJx4a65c ⟨"java/util/List", "size", "()I"⟩ yJx4a65c_size_8abf5 wsJx4a65c_size_8abf5) := goodIn_app (goodIn_of _ (by decide +kernel)) ggX6_transactionAt_Jx4a65c_size_8abf5
set_option maxRecDepth 20000 in
theorem ggX6_transactionAt_Jx4a65c_get_915e3 : GoodIn wsX6_transactionAt wsJx4a65c_get_915e3 := goodIn_r _ [14, 10, 15, 16, 17, 18, 19, 20, 21, 22, 23, 24, 25, 8, 26, 27, 36, 37, 38] (by decide +kernel) (by decide +kernel)
set_option maxRecDepth 20000 in
theorem gX6_transactionAt_Jx4a65c_get_915e3_f89Jx4a65c : GoodIn wsX6_transactionAt (va_wsF RX6 89 RJx4a65c ⟨"java/util/List", "get", "(I)Ljava/lang/Object;"⟩ yJx4a65c_get_915e3 wsJx4a65c_get_915e3) := goodIn_app (goodIn_of _ (by decide +kernel)) ggX6_transactionAt_Jx4a65c_get_915e3
theorem dX6_transactionAt_0 : decode cX6_transactionAt 0 = .ok (.iload_n 1, 1) := by decide +kernel
theorem dX6_transactionAt_1 : decode cX6_transactionAt 1 = .ok (.ifCond .lt 16, 3) := by decide +kernel
theorem dX6_transactionAt_4 : decode cX6_transactionAt 4 = .ok (.iload_n 1, 1) := by decide +kernel
theorem dX6_transactionAt_5 : decode cX6_transactionAt 5 = .ok (.aload_n 0, 1) := by decide +kernel
theorem dX6_transactionAt_6 : decode cX6_transactionAt 6 = .ok (.getfield 27, 3) := by decide +kernel
theorem dX6_transactionAt_9 : decode cX6_transactionAt 9 = .ok (.invokeinterface 83 1, 5) := by decide +kernel
theorem dX6_transactionAt_14 : decode cX6_transactionAt 14 = .ok (.if_icmp .lt 14, 3) := by decide +kernel
theorem dX6_transactionAt_17 : decode cX6_transactionAt 17 = .ok (.new 118, 3) := by decide +kernel
theorem dX6_transactionAt_20 : decode cX6_transactionAt 20 = .ok (.dup, 1) := by decide +kernel
theorem dX6_transactionAt_21 : decode cX6_transactionAt 21 = .ok (.ldc_w 271, 3) := by decide +kernel
theorem dX6_transactionAt_24 : decode cX6_transactionAt 24 = .ok (.invokespecial 122, 3) := by decide +kernel
theorem dX6_transactionAt_27 : decode cX6_transactionAt 27 = .ok (.athrow, 1) := by decide +kernel
theorem dX6_transactionAt_28 : decode cX6_transactionAt 28 = .ok (.aload_n 0, 1) := by decide +kernel
theorem dX6_transactionAt_29 : decode cX6_transactionAt 29 = .ok (.getfield 27, 3) := by decide +kernel
theorem dX6_transactionAt_32 : decode cX6_transactionAt 32 = .ok (.iload_n 1, 1) := by decide +kernel
theorem dX6_transactionAt_33 : decode cX6_transactionAt 33 = .ok (.invokeinterface 89 2, 5) := by decide +kernel
theorem dX6_transactionAt_38 : decode cX6_transactionAt 38 = .ok (.checkcast 93, 3) := by decide +kernel
theorem dX6_transactionAt_41 : decode cX6_transactionAt 41 = .ok (.areturn, 1) := by decide +kernel
theorem dX6_storeAt_0 : decode cX6_storeAt 0 = .ok (.iload_n 1, 1) := by decide +kernel
theorem dX6_storeAt_1 : decode cX6_storeAt 1 = .ok (.ifCond .lt 24, 3) := by decide +kernel
theorem dX6_storeAt_4 : decode cX6_storeAt 4 = .ok (.iload_n 1, 1) := by decide +kernel
theorem dX6_storeAt_5 : decode cX6_storeAt 5 = .ok (.aload_n 0, 1) := by decide +kernel
theorem dX6_storeAt_6 : decode cX6_storeAt 6 = .ok (.getfield 17, 3) := by decide +kernel
theorem dX6_storeAt_9 : decode cX6_storeAt 9 = .ok (.arraylength, 1) := by decide +kernel
theorem dX6_storeAt_10 : decode cX6_storeAt 10 = .ok (.if_icmp .ge 15, 3) := by decide +kernel
theorem dX6_storeAt_13 : decode cX6_storeAt 13 = .ok (.aload_n 0, 1) := by decide +kernel
theorem dX6_storeAt_14 : decode cX6_storeAt 14 = .ok (.getfield 17, 3) := by decide +kernel
theorem dX6_storeAt_17 : decode cX6_storeAt 17 = .ok (.iload_n 1, 1) := by decide +kernel
theorem dX6_storeAt_18 : decode cX6_storeAt 18 = .ok (.aaload, 1) := by decide +kernel
theorem dX6_storeAt_19 : decode cX6_storeAt 19 = .ok (.getfield 127, 3) := by decide +kernel
theorem dX6_storeAt_22 : decode cX6_storeAt 22 = .ok (.ifCond .ne 14, 3) := by decide +kernel
theorem dX6_storeAt_25 : decode cX6_storeAt 25 = .ok (.new 118, 3) := by decide +kernel
theorem dX6_storeAt_28 : decode cX6_storeAt 28 = .ok (.dup, 1) := by decide +kernel
theorem dX6_storeAt_29 : decode cX6_storeAt 29 = .ok (.ldc_w 273, 3) := by decide +kernel
theorem dX6_storeAt_32 : decode cX6_storeAt 32 = .ok (.invokespecial 122, 3) := by decide +kernel
theorem dX6_storeAt_35 : decode cX6_storeAt 35 = .ok (.athrow, 1) := by decide +kernel
theorem dX6_storeAt_36 : decode cX6_storeAt 36 = .ok (.aload_n 0, 1) := by decide +kernel
theorem dX6_storeAt_37 : decode cX6_storeAt 37 = .ok (.getfield 17, 3) := by decide +kernel
theorem dX6_storeAt_40 : decode cX6_storeAt 40 = .ok (.iload_n 1, 1) := by decide +kernel
theorem dX6_storeAt_41 : decode cX6_storeAt 41 = .ok (.aaload, 1) := by decide +kernel
theorem dX6_storeAt_42 : decode cX6_storeAt 42 = .ok (.areturn, 1) := by decide +kernel
set_option maxRecDepth 20000 in
theorem ggX6_cursorAt_Jx4a65c_size_8abf5 : GoodIn wsX6_cursorAt wsJx4a65c_size_8abf5 := goodIn_r _ [9, 10, 36, 37, 38] (by decide +kernel) (by decide +kernel)
set_option maxRecDepth 20000 in
theorem gX6_cursorAt_Jx4a65c_size_8abf5_f83Jx4a65c : GoodIn wsX6_cursorAt (va_wsF RX6 83 RJx4a65c ⟨"java/util/List", "size", "()I"⟩ yJx4a65c_size_8abf5 wsJx4a65c_size_8abf5) := goodIn_app (goodIn_of _ (by decide +kernel)) ggX6_cursorAt_Jx4a65c_size_8abf5
set_option maxRecDepth 20000 in
theorem ggX6_cursorAt_Jx4a65c_get_915e3 : GoodIn wsX6_cursorAt wsJx4a65c_get_915e3 := goodIn_r _ [14, 10, 15, 16, 17, 18, 19, 20, 21, 22, 23, 24, 25, 8, 26, 27, 36, 37, 38] (by decide +kernel) (by decide +kernel)
set_option maxRecDepth 20000 in
theorem gX6_cursorAt_Jx4a65c_get_915e3_f89Jx4a65c : GoodIn wsX6_cursorAt (va_wsF RX6 89 RJx4a65c ⟨"java/util/List", "get", "(I)Ljava/lang/Object;"⟩ yJx4a65c_get_915e3 wsJx4a65c_get_915e3) := goodIn_app (goodIn_of _ (by decide +kernel)) ggX6_cursorAt_Jx4a65c_get_915e3
theorem dX6_cursorAt_0 : decode cX6_cursorAt 0 = .ok (.iload_n 1, 1) := by decide +kernel
theorem dX6_cursorAt_1 : decode cX6_cursorAt 1 = .ok (.ifCond .lt 16, 3) := by decide +kernel
theorem dX6_cursorAt_4 : decode cX6_cursorAt 4 = .ok (.iload_n 1, 1) := by decide +kernel
theorem dX6_cursorAt_5 : decode cX6_cursorAt 5 = .ok (.aload_n 0, 1) := by decide +kernel
theorem dX6_cursorAt_6 : decode cX6_cursorAt 6 = .ok (.getfield 31, 3) := by decide +kernel
theorem dX6_cursorAt_9 : decode cX6_cursorAt 9 = .ok (.invokeinterface 83 1, 5) := by decide +kernel
theorem dX6_cursorAt_14 : decode cX6_cursorAt 14 = .ok (.if_icmp .lt 14, 3) := by decide +kernel
theorem dX6_cursorAt_17 : decode cX6_cursorAt 17 = .ok (.new 118, 3) := by decide +kernel
theorem dX6_cursorAt_20 : decode cX6_cursorAt 20 = .ok (.dup, 1) := by decide +kernel
theorem dX6_cursorAt_21 : decode cX6_cursorAt 21 = .ok (.ldc_w 275, 3) := by decide +kernel
theorem dX6_cursorAt_24 : decode cX6_cursorAt 24 = .ok (.invokespecial 122, 3) := by decide +kernel
theorem dX6_cursorAt_27 : decode cX6_cursorAt 27 = .ok (.athrow, 1) := by decide +kernel
theorem dX6_cursorAt_28 : decode cX6_cursorAt 28 = .ok (.aload_n 0, 1) := by decide +kernel
theorem dX6_cursorAt_29 : decode cX6_cursorAt 29 = .ok (.getfield 31, 3) := by decide +kernel
theorem dX6_cursorAt_32 : decode cX6_cursorAt 32 = .ok (.iload_n 1, 1) := by decide +kernel
theorem dX6_cursorAt_33 : decode cX6_cursorAt 33 = .ok (.invokeinterface 89 2, 5) := by decide +kernel
theorem dX6_cursorAt_38 : decode cX6_cursorAt 38 = .ok (.checkcast 225, 3) := by decide +kernel
theorem dX6_cursorAt_41 : decode cX6_cursorAt 41 = .ok (.areturn, 1) := by decide +kernel
theorem dX6_requireInRange_0 : decode cX6_requireInRange 0 = .ok (.iload_n 0, 1) := by decide +kernel
theorem dX6_requireInRange_1 : decode cX6_requireInRange 1 = .ok (.iload_n 1, 1) := by decide +kernel
theorem dX6_requireInRange_2 : decode cX6_requireInRange 2 = .ok (.if_icmp .lt 8, 3) := by decide +kernel
theorem dX6_requireInRange_5 : decode cX6_requireInRange 5 = .ok (.iload_n 0, 1) := by decide +kernel
theorem dX6_requireInRange_6 : decode cX6_requireInRange 6 = .ok (.iload_n 2, 1) := by decide +kernel
theorem dX6_requireInRange_7 : decode cX6_requireInRange 7 = .ok (.if_icmp .le 14, 3) := by decide +kernel
theorem dX6_requireInRange_10 : decode cX6_requireInRange 10 = .ok (.new 277, 3) := by decide +kernel
theorem dX6_requireInRange_13 : decode cX6_requireInRange 13 = .ok (.dup, 1) := by decide +kernel
theorem dX6_requireInRange_14 : decode cX6_requireInRange 14 = .ok (.ldc_w 279, 3) := by decide +kernel
theorem dX6_requireInRange_17 : decode cX6_requireInRange 17 = .ok (.invokespecial 281, 3) := by decide +kernel
theorem dX6_requireInRange_20 : decode cX6_requireInRange 20 = .ok (.athrow, 1) := by decide +kernel
theorem dX6_requireInRange_21 : decode cX6_requireInRange 21 = .ok (.return_, 1) := by decide +kernel
set_option maxRecDepth 20000 in
theorem ggX6_requireKey_X1_isKey : GoodIn wsX6_requireKey wsX1_isKey := goodIn_r _ [6, 7, 8, 9, 10, 5, 11, 12, 13, 14] (by decide +kernel) (by decide +kernel)
set_option maxRecDepth 20000 in
theorem gX6_requireKey_X1_isKey : GoodIn wsX6_requireKey (va_wsS RX6 282 yX1_isKey wsX1_isKey) := goodIn_app (goodIn_of _ (by decide +kernel)) ggX6_requireKey_X1_isKey
theorem dX6_requireKey_0 : decode cX6_requireKey 0 = .ok (.iload_n 0, 1) := by decide +kernel
theorem dX6_requireKey_1 : decode cX6_requireKey 1 = .ok (.invokestatic 282, 3) := by decide +kernel
theorem dX6_requireKey_4 : decode cX6_requireKey 4 = .ok (.ifCond .ne 14, 3) := by decide +kernel
theorem dX6_requireKey_7 : decode cX6_requireKey 7 = .ok (.new 277, 3) := by decide +kernel
theorem dX6_requireKey_10 : decode cX6_requireKey 10 = .ok (.dup, 1) := by decide +kernel
theorem dX6_requireKey_11 : decode cX6_requireKey 11 = .ok (.ldc_w 287, 3) := by decide +kernel
theorem dX6_requireKey_14 : decode cX6_requireKey 14 = .ok (.invokespecial 281, 3) := by decide +kernel
theorem dX6_requireKey_17 : decode cX6_requireKey 17 = .ok (.athrow, 1) := by decide +kernel
theorem dX6_requireKey_18 : decode cX6_requireKey 18 = .ok (.return_, 1) := by decide +kernel
theorem dX6_requireUpgrade_0 : decode cX6_requireUpgrade 0 = .ok (.iload_n 1, 1) := by decide +kernel
theorem dX6_requireUpgrade_1 : decode cX6_requireUpgrade 1 = .ok (.aload_n 0, 1) := by decide +kernel
theorem dX6_requireUpgrade_2 : decode cX6_requireUpgrade 2 = .ok (.getfield 38, 3) := by decide +kernel
theorem dX6_requireUpgrade_5 : decode cX6_requireUpgrade 5 = .ok (.if_icmp .eq 14, 3) := by decide +kernel
theorem dX6_requireUpgrade_8 : decode cX6_requireUpgrade 8 = .ok (.new 58, 3) := by decide +kernel
theorem dX6_requireUpgrade_11 : decode cX6_requireUpgrade 11 = .ok (.dup, 1) := by decide +kernel
theorem dX6_requireUpgrade_12 : decode cX6_requireUpgrade 12 = .ok (.ldc_w 289, 3) := by decide +kernel
theorem dX6_requireUpgrade_15 : decode cX6_requireUpgrade 15 = .ok (.invokespecial 62, 3) := by decide +kernel
theorem dX6_requireUpgrade_18 : decode cX6_requireUpgrade 18 = .ok (.athrow, 1) := by decide +kernel
theorem dX6_requireUpgrade_19 : decode cX6_requireUpgrade 19 = .ok (.return_, 1) := by decide +kernel
theorem dX6_requireRunning_0 : decode cX6_requireRunning 0 = .ok (.aload_n 0, 1) := by decide +kernel
theorem dX6_requireRunning_1 : decode cX6_requireRunning 1 = .ok (.getfield 173, 3) := by decide +kernel
theorem dX6_requireRunning_4 : decode cX6_requireRunning 4 = .ok (.iconst 1, 1) := by decide +kernel
theorem dX6_requireRunning_5 : decode cX6_requireRunning 5 = .ok (.if_icmp .eq 14, 3) := by decide +kernel
theorem dX6_requireRunning_8 : decode cX6_requireRunning 8 = .ok (.new 58, 3) := by decide +kernel
theorem dX6_requireRunning_11 : decode cX6_requireRunning 11 = .ok (.dup, 1) := by decide +kernel
theorem dX6_requireRunning_12 : decode cX6_requireRunning 12 = .ok (.ldc_w 291, 3) := by decide +kernel
theorem dX6_requireRunning_15 : decode cX6_requireRunning 15 = .ok (.invokespecial 62, 3) := by decide +kernel
theorem dX6_requireRunning_18 : decode cX6_requireRunning 18 = .ok (.athrow, 1) := by decide +kernel
theorem dX6_requireRunning_19 : decode cX6_requireRunning 19 = .ok (.return_, 1) := by decide +kernel
set_option maxRecDepth 20000 in
theorem ggX6_requireReading_X6_requireRunning : GoodIn wsX6_requireReading wsX6_requireRunning := goodIn_ca (goodIn_r _ [6, 1, 2, 7, 14, 15, 16, 17] (by decide +kernel) (by decide +kernel)) (goodIn_sub (fun _ h => List.mem_cons_of_mem _ (List.mem_append_right _ h)) (by decide +kernel))
set_option maxRecDepth 20000 in
theorem gX6_requireReading_X6_requireRunning : GoodIn wsX6_requireReading (va_wsS RX6 176 yX6_requireRunning wsX6_requireRunning) := goodIn_app (goodIn_of _ (by decide +kernel)) ggX6_requireReading_X6_requireRunning
set_option maxRecDepth 20000 in
theorem ggX6_requireReading_X5_hasInScope : GoodIn wsX6_requireReading wsX5_hasInScope := goodIn_r _ [12, 13, 14, 15, 16, 17] (by decide +kernel) (by decide +kernel)
set_option maxRecDepth 20000 in
theorem gX6_requireReading_X5_hasInScope : GoodIn wsX6_requireReading (wsV RX6 293 RX5 yX5_hasInScope wsX5_hasInScope) := goodIn_app (goodIn_of _ (by decide +kernel)) ggX6_requireReading_X5_hasInScope
theorem dX6_requireReading_0 : decode cX6_requireReading 0 = .ok (.aload_n 0, 1) := by decide +kernel
theorem dX6_requireReading_1 : decode cX6_requireReading 1 = .ok (.invokestatic 176, 3) := by decide +kernel
theorem dX6_requireReading_4 : decode cX6_requireReading 4 = .ok (.aload_n 0, 1) := by decide +kernel
theorem dX6_requireReading_5 : decode cX6_requireReading 5 = .ok (.iload_n 1, 1) := by decide +kernel
theorem dX6_requireReading_6 : decode cX6_requireReading 6 = .ok (.invokevirtual 293, 3) := by decide +kernel
theorem dX6_requireReading_9 : decode cX6_requireReading 9 = .ok (.ifCond .ne 14, 3) := by decide +kernel
theorem dX6_requireReading_12 : decode cX6_requireReading 12 = .ok (.new 58, 3) := by decide +kernel
theorem dX6_requireReading_15 : decode cX6_requireReading 15 = .ok (.dup, 1) := by decide +kernel
theorem dX6_requireReading_16 : decode cX6_requireReading 16 = .ok (.ldc_w 296, 3) := by decide +kernel
theorem dX6_requireReading_19 : decode cX6_requireReading 19 = .ok (.invokespecial 62, 3) := by decide +kernel
theorem dX6_requireReading_22 : decode cX6_requireReading 22 = .ok (.athrow, 1) := by decide +kernel
theorem dX6_requireReading_23 : decode cX6_requireReading 23 = .ok (.return_, 1) := by decide +kernel
set_option maxRecDepth 20000 in
theorem ggX6_requireWriting_X6_requireReading : GoodIn wsX6_requireWriting wsX6_requireReading := goodIn_ca (goodIn_r _ [7, 1, 2, 8, 9, 6, 10, 11, 12, 13, 14, 15, 16, 17, 18, 19, 20, 21] (by decide +kernel) (by decide +kernel)) (goodIn_sub (fun _ h => List.mem_cons_of_mem _ (List.mem_append_right _ h)) (by decide +kernel))
set_option maxRecDepth 20000 in
theorem gX6_requireWriting_X6_requireReading : GoodIn wsX6_requireWriting (va_wsS RX6 214 yX6_requireReading wsX6_requireReading) := goodIn_app (goodIn_of _ (by decide +kernel)) ggX6_requireWriting_X6_requireReading
theorem dX6_requireWriting_0 : decode cX6_requireWriting 0 = .ok (.aload_n 0, 1) := by decide +kernel
theorem dX6_requireWriting_1 : decode cX6_requireWriting 1 = .ok (.iload_n 1, 1) := by decide +kernel
theorem dX6_requireWriting_2 : decode cX6_requireWriting 2 = .ok (.invokestatic 214, 3) := by decide +kernel
theorem dX6_requireWriting_5 : decode cX6_requireWriting 5 = .ok (.aload_n 0, 1) := by decide +kernel
theorem dX6_requireWriting_6 : decode cX6_requireWriting 6 = .ok (.getfield 255, 3) := by decide +kernel
theorem dX6_requireWriting_9 : decode cX6_requireWriting 9 = .ok (.ifCond .ne 14, 3) := by decide +kernel
theorem dX6_requireWriting_12 : decode cX6_requireWriting 12 = .ok (.new 58, 3) := by decide +kernel
theorem dX6_requireWriting_15 : decode cX6_requireWriting 15 = .ok (.dup, 1) := by decide +kernel
theorem dX6_requireWriting_16 : decode cX6_requireWriting 16 = .ok (.ldc_w 298, 3) := by decide +kernel
theorem dX6_requireWriting_19 : decode cX6_requireWriting 19 = .ok (.invokespecial 62, 3) := by decide +kernel
theorem dX6_requireWriting_22 : decode cX6_requireWriting 22 = .ok (.athrow, 1) := by decide +kernel
theorem dX6_requireWriting_23 : decode cX6_requireWriting 23 = .ok (.return_, 1) := by decide +kernel
set_option maxRecDepth 20000 in
theorem ggX6_canOpen_X6_hasRoom : GoodIn wsX6_canOpen wsX6_hasRoom := goodIn_r _ [8, 9, 10, 11, 12, 13, 14, 15, 30, 31, 32, 33, 34, 35, 36, 37, 38, 39, 40] (by decide +kernel) (by decide +kernel)
set_option maxRecDepth 20000 in
theorem gX6_canOpen_X6_hasRoom : GoodIn wsX6_canOpen (wsV RX6 161 RX6 yX6_hasRoom wsX6_hasRoom) := goodIn_app (goodIn_of _ (by decide +kernel)) ggX6_canOpen_X6_hasRoom
set_option maxRecDepth 20000 in
theorem ggX6_canOpen_X6_upgradesMustWait : GoodIn wsX6_canOpen wsX6_upgradesMustWait := goodIn_r _ [19, 20, 21, 22, 23, 24, 25, 26, 30, 31, 32, 33, 34, 35, 36, 37, 27, 28, 29] (by decide +kernel) (by decide +kernel)
set_option maxRecDepth 20000 in
theorem gX6_canOpen_X6_upgradesMustWait : GoodIn wsX6_canOpen (wsV RX6 300 RX6 yX6_upgradesMustWait wsX6_upgradesMustWait) := goodIn_app (goodIn_of _ (by decide +kernel)) ggX6_canOpen_X6_upgradesMustWait
theorem dX6_canOpen_0 : decode cX6_canOpen 0 = .ok (.aload_n 1, 1) := by decide +kernel
theorem dX6_canOpen_1 : decode cX6_canOpen 1 = .ok (.getfield 65, 3) := by decide +kernel
theorem dX6_canOpen_4 : decode cX6_canOpen 4 = .ok (.ifCond .ne 11, 3) := by decide +kernel
theorem dX6_canOpen_7 : decode cX6_canOpen 7 = .ok (.iload_n 2, 1) := by decide +kernel
theorem dX6_canOpen_8 : decode cX6_canOpen 8 = .ok (.aload_n 0, 1) := by decide +kernel
theorem dX6_canOpen_9 : decode cX6_canOpen 9 = .ok (.getfield 34, 3) := by decide +kernel
theorem dX6_canOpen_12 : decode cX6_canOpen 12 = .ok (.if_icmp .ge 5, 3) := by decide +kernel
theorem dX6_canOpen_15 : decode cX6_canOpen 15 = .ok (.iconst 0, 1) := by decide +kernel
theorem dX6_canOpen_16 : decode cX6_canOpen 16 = .ok (.ireturn, 1) := by decide +kernel
theorem dX6_canOpen_17 : decode cX6_canOpen 17 = .ok (.iload_n 2, 1) := by decide +kernel
theorem dX6_canOpen_18 : decode cX6_canOpen 18 = .ok (.aload_n 0, 1) := by decide +kernel
theorem dX6_canOpen_19 : decode cX6_canOpen 19 = .ok (.getfield 34, 3) := by decide +kernel
theorem dX6_canOpen_22 : decode cX6_canOpen 22 = .ok (.if_icmp .ne 17, 3) := by decide +kernel
theorem dX6_canOpen_25 : decode cX6_canOpen 25 = .ok (.aload_n 0, 1) := by decide +kernel
theorem dX6_canOpen_26 : decode cX6_canOpen 26 = .ok (.getfield 38, 3) := by decide +kernel
theorem dX6_canOpen_29 : decode cX6_canOpen 29 = .ok (.iconst (-1), 1) := by decide +kernel
theorem dX6_canOpen_30 : decode cX6_canOpen 30 = .ok (.if_icmp .ne 7, 3) := by decide +kernel
theorem dX6_canOpen_33 : decode cX6_canOpen 33 = .ok (.iconst 1, 1) := by decide +kernel
theorem dX6_canOpen_34 : decode cX6_canOpen 34 = .ok (.goto 4, 3) := by decide +kernel
theorem dX6_canOpen_37 : decode cX6_canOpen 37 = .ok (.iconst 0, 1) := by decide +kernel
theorem dX6_canOpen_38 : decode cX6_canOpen 38 = .ok (.ireturn, 1) := by decide +kernel
theorem dX6_canOpen_39 : decode cX6_canOpen 39 = .ok (.aload_n 0, 1) := by decide +kernel
theorem dX6_canOpen_40 : decode cX6_canOpen 40 = .ok (.invokevirtual 161, 3) := by decide +kernel
theorem dX6_canOpen_43 : decode cX6_canOpen 43 = .ok (.ifCond .ne 10, 3) := by decide +kernel
theorem dX6_canOpen_46 : decode cX6_canOpen 46 = .ok (.aload_n 0, 1) := by decide +kernel
theorem dX6_canOpen_47 : decode cX6_canOpen 47 = .ok (.invokevirtual 300, 3) := by decide +kernel
theorem dX6_canOpen_50 : decode cX6_canOpen 50 = .ok (.ifCond .eq 7, 3) := by decide +kernel
theorem dX6_canOpen_53 : decode cX6_canOpen 53 = .ok (.iconst 1, 1) := by decide +kernel
theorem dX6_canOpen_54 : decode cX6_canOpen 54 = .ok (.goto 4, 3) := by decide +kernel
theorem dX6_canOpen_57 : decode cX6_canOpen 57 = .ok (.iconst 0, 1) := by decide +kernel
theorem dX6_canOpen_58 : decode cX6_canOpen 58 = .ok (.ireturn, 1) := by decide +kernel
set_option maxRecDepth 20000 in
theorem ggX6_upgradesMustWait_X4_isInside : GoodIn wsX6_upgradesMustWait wsX4_isInside := goodIn_r _ [6, 7, 16, 17, 18] (by decide +kernel) (by decide +kernel)
set_option maxRecDepth 20000 in
theorem gX6_upgradesMustWait_X4_isInside : GoodIn wsX6_upgradesMustWait (wsV RX6 303 RX4 yX4_isInside wsX4_isInside) := goodIn_app (goodIn_of _ (by decide +kernel)) ggX6_upgradesMustWait_X4_isInside
theorem dX6_upgradesMustWait_0 : decode cX6_upgradesMustWait 0 = .ok (.iconst 0, 1) := by decide +kernel
theorem dX6_upgradesMustWait_1 : decode cX6_upgradesMustWait 1 = .ok (.istore_n 1, 1) := by decide +kernel
theorem dX6_upgradesMustWait_2 : decode cX6_upgradesMustWait 2 = .ok (.iload_n 1, 1) := by decide +kernel
theorem dX6_upgradesMustWait_3 : decode cX6_upgradesMustWait 3 = .ok (.aload_n 0, 1) := by decide +kernel
theorem dX6_upgradesMustWait_4 : decode cX6_upgradesMustWait 4 = .ok (.getfield 11, 3) := by decide +kernel
theorem dX6_upgradesMustWait_7 : decode cX6_upgradesMustWait 7 = .ok (.arraylength, 1) := by decide +kernel
theorem dX6_upgradesMustWait_8 : decode cX6_upgradesMustWait 8 = .ok (.if_icmp .ge 23, 3) := by decide +kernel
theorem dX6_upgradesMustWait_11 : decode cX6_upgradesMustWait 11 = .ok (.aload_n 0, 1) := by decide +kernel
theorem dX6_upgradesMustWait_12 : decode cX6_upgradesMustWait 12 = .ok (.getfield 11, 3) := by decide +kernel
theorem dX6_upgradesMustWait_15 : decode cX6_upgradesMustWait 15 = .ok (.iload_n 1, 1) := by decide +kernel
theorem dX6_upgradesMustWait_16 : decode cX6_upgradesMustWait 16 = .ok (.aaload, 1) := by decide +kernel
theorem dX6_upgradesMustWait_17 : decode cX6_upgradesMustWait 17 = .ok (.invokevirtual 303, 3) := by decide +kernel
theorem dX6_upgradesMustWait_20 : decode cX6_upgradesMustWait 20 = .ok (.ifCond .eq 5, 3) := by decide +kernel
theorem dX6_upgradesMustWait_23 : decode cX6_upgradesMustWait 23 = .ok (.iconst 1, 1) := by decide +kernel
theorem dX6_upgradesMustWait_24 : decode cX6_upgradesMustWait 24 = .ok (.ireturn, 1) := by decide +kernel
theorem dX6_upgradesMustWait_25 : decode cX6_upgradesMustWait 25 = .ok (.iinc 1 1, 3) := by decide +kernel
theorem dX6_upgradesMustWait_28 : decode cX6_upgradesMustWait 28 = .ok (.goto (-26), 3) := by decide +kernel
theorem dX6_upgradesMustWait_31 : decode cX6_upgradesMustWait 31 = .ok (.iconst 0, 1) := by decide +kernel
theorem dX6_upgradesMustWait_32 : decode cX6_upgradesMustWait 32 = .ok (.ireturn, 1) := by decide +kernel
set_option maxRecDepth 20000 in
theorem ggX6_hasRoom_Jx4a65c_size_8abf5 : GoodIn wsX6_hasRoom wsJx4a65c_size_8abf5 := goodIn_r _ [6, 7, 16, 17, 18] (by decide +kernel) (by decide +kernel)
set_option maxRecDepth 20000 in
theorem gX6_hasRoom_Jx4a65c_size_8abf5_f83Jx4a65c : GoodIn wsX6_hasRoom (va_wsF RX6 83 RJx4a65c ⟨"java/util/List", "size", "()I"⟩ yJx4a65c_size_8abf5 wsJx4a65c_size_8abf5) := goodIn_app (goodIn_of _ (by decide +kernel)) ggX6_hasRoom_Jx4a65c_size_8abf5
theorem dX6_hasRoom_0 : decode cX6_hasRoom 0 = .ok (.aload_n 0, 1) := by decide +kernel
theorem dX6_hasRoom_1 : decode cX6_hasRoom 1 = .ok (.getfield 27, 3) := by decide +kernel
theorem dX6_hasRoom_4 : decode cX6_hasRoom 4 = .ok (.invokeinterface 83 1, 5) := by decide +kernel
theorem dX6_hasRoom_9 : decode cX6_hasRoom 9 = .ok (.bipush 60, 2) := by decide +kernel
theorem dX6_hasRoom_11 : decode cX6_hasRoom 11 = .ok (.if_icmp .ge 7, 3) := by decide +kernel
theorem dX6_hasRoom_14 : decode cX6_hasRoom 14 = .ok (.iconst 1, 1) := by decide +kernel
theorem dX6_hasRoom_15 : decode cX6_hasRoom 15 = .ok (.goto 4, 3) := by decide +kernel
theorem dX6_hasRoom_18 : decode cX6_hasRoom 18 = .ok (.iconst 0, 1) := by decide +kernel
theorem dX6_hasRoom_19 : decode cX6_hasRoom 19 = .ok (.ireturn, 1) := by decide +kernel
set_option maxRecDepth 20000 in
theorem ggX6_hasRoomAfter_X6_hasRoom : GoodIn wsX6_hasRoomAfter wsX6_hasRoom := goodIn_r _ [5, 6, 7, 8, 9, 10, 11, 12, 27, 28, 29, 30, 31, 32, 33, 34, 35, 36, 37] (by decide +kernel) (by decide +kernel)
set_option maxRecDepth 20000 in
theorem gX6_hasRoomAfter_X6_hasRoom : GoodIn wsX6_hasRoomAfter (wsV RX6 161 RX6 yX6_hasRoom wsX6_hasRoom) := goodIn_app (goodIn_of _ (by decide +kernel)) ggX6_hasRoomAfter_X6_hasRoom
set_option maxRecDepth 20000 in
theorem ggX6_hasRoomAfter_X6_upgradeFollows : GoodIn wsX6_hasRoomAfter wsX6_upgradeFollows := goodIn_r _ [16, 17, 18, 19, 20, 21, 22, 23, 24, 25, 26, 27, 28, 29, 30, 31, 32, 33, 34, 38, 39, 40] (by decide +kernel) (by decide +kernel)
set_option maxRecDepth 20000 in
theorem gX6_hasRoomAfter_X6_upgradeFollows : GoodIn wsX6_hasRoomAfter (wsV RX6 306 RX6 yX6_upgradeFollows wsX6_upgradeFollows) := goodIn_app (goodIn_of _ (by decide +kernel)) ggX6_hasRoomAfter_X6_upgradeFollows
theorem dX6_hasRoomAfter_0 : decode cX6_hasRoomAfter 0 = .ok (.aload_n 0, 1) := by decide +kernel
theorem dX6_hasRoomAfter_1 : decode cX6_hasRoomAfter 1 = .ok (.invokevirtual 161, 3) := by decide +kernel
theorem dX6_hasRoomAfter_4 : decode cX6_hasRoomAfter 4 = .ok (.ifCond .ne 11, 3) := by decide +kernel
theorem dX6_hasRoomAfter_7 : decode cX6_hasRoomAfter 7 = .ok (.aload_n 0, 1) := by decide +kernel
theorem dX6_hasRoomAfter_8 : decode cX6_hasRoomAfter 8 = .ok (.aload_n 1, 1) := by decide +kernel
theorem dX6_hasRoomAfter_9 : decode cX6_hasRoomAfter 9 = .ok (.invokevirtual 306, 3) := by decide +kernel
theorem dX6_hasRoomAfter_12 : decode cX6_hasRoomAfter 12 = .ok (.ifCond .ne 7, 3) := by decide +kernel
theorem dX6_hasRoomAfter_15 : decode cX6_hasRoomAfter 15 = .ok (.iconst 1, 1) := by decide +kernel
theorem dX6_hasRoomAfter_16 : decode cX6_hasRoomAfter 16 = .ok (.goto 4, 3) := by decide +kernel
theorem dX6_hasRoomAfter_19 : decode cX6_hasRoomAfter 19 = .ok (.iconst 0, 1) := by decide +kernel
theorem dX6_hasRoomAfter_20 : decode cX6_hasRoomAfter 20 = .ok (.ireturn, 1) := by decide +kernel
set_option maxRecDepth 20000 in
theorem ggX6_upgradeFollows_X4_isInside : GoodIn wsX6_upgradeFollows wsX4_isInside := goodIn_r _ [9, 10, 19, 20, 21] (by decide +kernel) (by decide +kernel)
set_option maxRecDepth 20000 in
theorem gX6_upgradeFollows_X4_isInside : GoodIn wsX6_upgradeFollows (wsV RX6 303 RX4 yX4_isInside wsX4_isInside) := goodIn_app (goodIn_of _ (by decide +kernel)) ggX6_upgradeFollows_X4_isInside
theorem dX6_upgradeFollows_0 : decode cX6_upgradeFollows 0 = .ok (.iconst 0, 1) := by decide +kernel
theorem dX6_upgradeFollows_1 : decode cX6_upgradeFollows 1 = .ok (.istore_n 2, 1) := by decide +kernel
theorem dX6_upgradeFollows_2 : decode cX6_upgradeFollows 2 = .ok (.iconst 0, 1) := by decide +kernel
theorem dX6_upgradeFollows_3 : decode cX6_upgradeFollows 3 = .ok (.istore_n 3, 1) := by decide +kernel
theorem dX6_upgradeFollows_4 : decode cX6_upgradeFollows 4 = .ok (.iload_n 3, 1) := by decide +kernel
theorem dX6_upgradeFollows_5 : decode cX6_upgradeFollows 5 = .ok (.aload_n 0, 1) := by decide +kernel
theorem dX6_upgradeFollows_6 : decode cX6_upgradeFollows 6 = .ok (.getfield 11, 3) := by decide +kernel
theorem dX6_upgradeFollows_9 : decode cX6_upgradeFollows 9 = .ok (.arraylength, 1) := by decide +kernel
theorem dX6_upgradeFollows_10 : decode cX6_upgradeFollows 10 = .ok (.if_icmp .ge 62, 3) := by decide +kernel
theorem dX6_upgradeFollows_13 : decode cX6_upgradeFollows 13 = .ok (.aload_n 0, 1) := by decide +kernel
theorem dX6_upgradeFollows_14 : decode cX6_upgradeFollows 14 = .ok (.getfield 11, 3) := by decide +kernel
theorem dX6_upgradeFollows_17 : decode cX6_upgradeFollows 17 = .ok (.iload_n 3, 1) := by decide +kernel
theorem dX6_upgradeFollows_18 : decode cX6_upgradeFollows 18 = .ok (.aaload, 1) := by decide +kernel
theorem dX6_upgradeFollows_19 : decode cX6_upgradeFollows 19 = .ok (.astore 4, 2) := by decide +kernel
theorem dX6_upgradeFollows_21 : decode cX6_upgradeFollows 21 = .ok (.aload 4, 2) := by decide +kernel
theorem dX6_upgradeFollows_23 : decode cX6_upgradeFollows 23 = .ok (.aload_n 1, 1) := by decide +kernel
theorem dX6_upgradeFollows_24 : decode cX6_upgradeFollows 24 = .ok (.if_acmp .eq 13, 3) := by decide +kernel
theorem dX6_upgradeFollows_27 : decode cX6_upgradeFollows 27 = .ok (.aload 4, 2) := by decide +kernel
theorem dX6_upgradeFollows_29 : decode cX6_upgradeFollows 29 = .ok (.invokevirtual 303, 3) := by decide +kernel
theorem dX6_upgradeFollows_32 : decode cX6_upgradeFollows 32 = .ok (.ifCond .eq 5, 3) := by decide +kernel
theorem dX6_upgradeFollows_35 : decode cX6_upgradeFollows 35 = .ok (.iconst 0, 1) := by decide +kernel
theorem dX6_upgradeFollows_36 : decode cX6_upgradeFollows 36 = .ok (.ireturn, 1) := by decide +kernel
theorem dX6_upgradeFollows_37 : decode cX6_upgradeFollows 37 = .ok (.aload 4, 2) := by decide +kernel
theorem dX6_upgradeFollows_39 : decode cX6_upgradeFollows 39 = .ok (.aload_n 1, 1) := by decide +kernel
theorem dX6_upgradeFollows_40 : decode cX6_upgradeFollows 40 = .ok (.if_acmp .eq 26, 3) := by decide +kernel
theorem dX6_upgradeFollows_43 : decode cX6_upgradeFollows 43 = .ok (.aload 4, 2) := by decide +kernel
theorem dX6_upgradeFollows_45 : decode cX6_upgradeFollows 45 = .ok (.getfield 65, 3) := by decide +kernel
theorem dX6_upgradeFollows_48 : decode cX6_upgradeFollows 48 = .ok (.iconst 3, 1) := by decide +kernel
theorem dX6_upgradeFollows_49 : decode cX6_upgradeFollows 49 = .ok (.if_icmp .ne 17, 3) := by decide +kernel
theorem dX6_upgradeFollows_52 : decode cX6_upgradeFollows 52 = .ok (.aload 4, 2) := by decide +kernel
theorem dX6_upgradeFollows_54 : decode cX6_upgradeFollows 54 = .ok (.getfield 68, 3) := by decide +kernel
theorem dX6_upgradeFollows_57 : decode cX6_upgradeFollows 57 = .ok (.aload_n 0, 1) := by decide +kernel
theorem dX6_upgradeFollows_58 : decode cX6_upgradeFollows 58 = .ok (.getfield 34, 3) := by decide +kernel
theorem dX6_upgradeFollows_61 : decode cX6_upgradeFollows 61 = .ok (.if_icmp .le 5, 3) := by decide +kernel
theorem dX6_upgradeFollows_64 : decode cX6_upgradeFollows 64 = .ok (.iconst 1, 1) := by decide +kernel
theorem dX6_upgradeFollows_65 : decode cX6_upgradeFollows 65 = .ok (.istore_n 2, 1) := by decide +kernel
theorem dX6_upgradeFollows_66 : decode cX6_upgradeFollows 66 = .ok (.iinc 3 1, 3) := by decide +kernel
theorem dX6_upgradeFollows_69 : decode cX6_upgradeFollows 69 = .ok (.goto (-65), 3) := by decide +kernel
theorem dX6_upgradeFollows_72 : decode cX6_upgradeFollows 72 = .ok (.iload_n 2, 1) := by decide +kernel
theorem dX6_upgradeFollows_73 : decode cX6_upgradeFollows 73 = .ok (.ireturn, 1) := by decide +kernel
set_option maxRecDepth 20000 in
theorem ggX6_leave_X6_beginDueUpgrade : GoodIn wsX6_leave wsX6_beginDueUpgrade := goodIn_r _ [7, 8, 9, 10, 1, 11, 12, 13, 6, 14, 15, 16, 17, 18, 19, 20, 21, 22, 23, 24, 25, 26, 27, 28, 29, 30, 2, 31, 32, 33, 34, 35, 36, 37, 38, 39, 40, 41, 42, 43, 44, 45, 46, 47, 48, 49, 50, 51, 52, 53, 54, 55, 56, 57, 58, 59, 60, 61, 62, 63, 64, 65, 66, 67, 68, 69, 70, 71, 72, 73, 74, 75, 76, 77, 78, 79, 80, 81, 82, 83, 84, 85, 86, 87, 88, 89, 90, 91, 92, 93, 94, 95, 96, 97, 98, 99, 100, 101, 102, 103, 104, 105, 106, 107, 108, 109, 110, 111, 112, 113, 114, 115, 116, 117, 118, 119, 120, 121, 122, 123, 124, 125, 126, 127, 128, 129, 130, 131, 132, 133, 134, 135, 136, 137, 138, 139, 140, 141, 142, 143, 144, 145, 146, 147, 148, 149, 153, 154, 155, 156, 157, 158, 159, 160, 150, 151, 152, 161, 162, 163, 164, 165, 166, 167, 168, 169, 170] (by decide +kernel) (by decide +kernel)
set_option maxRecDepth 20000 in
theorem gX6_leave_X6_beginDueUpgrade : GoodIn wsX6_leave (wsV RX6 74 RX6 yX6_beginDueUpgrade wsX6_beginDueUpgrade) := goodIn_app (goodIn_of _ (by decide +kernel)) ggX6_leave_X6_beginDueUpgrade
theorem dX6_leave_0 : decode cX6_leave 0 = .ok (.aload_n 1, 1) := by decide +kernel
theorem dX6_leave_1 : decode cX6_leave 1 = .ok (.getfield 65, 3) := by decide +kernel
theorem dX6_leave_4 : decode cX6_leave 4 = .ok (.iconst 2, 1) := by decide +kernel
theorem dX6_leave_5 : decode cX6_leave 5 = .ok (.if_icmp .ne 8, 3) := by decide +kernel
theorem dX6_leave_8 : decode cX6_leave 8 = .ok (.aload_n 0, 1) := by decide +kernel
theorem dX6_leave_9 : decode cX6_leave 9 = .ok (.iconst (-1), 1) := by decide +kernel
theorem dX6_leave_10 : decode cX6_leave 10 = .ok (.putfield 38, 3) := by decide +kernel
theorem dX6_leave_13 : decode cX6_leave 13 = .ok (.aload_n 1, 1) := by decide +kernel
theorem dX6_leave_14 : decode cX6_leave 14 = .ok (.iconst 0, 1) := by decide +kernel
theorem dX6_leave_15 : decode cX6_leave 15 = .ok (.putfield 65, 3) := by decide +kernel
theorem dX6_leave_18 : decode cX6_leave 18 = .ok (.aload_n 0, 1) := by decide +kernel
theorem dX6_leave_19 : decode cX6_leave 19 = .ok (.invokevirtual 74, 3) := by decide +kernel
theorem dX6_leave_22 : decode cX6_leave 22 = .ok (.return_, 1) := by decide +kernel
set_option maxRecDepth 20000 in
theorem ggX6_beginDueUpgrade_X6_upgradesMustWait : GoodIn wsX6_beginDueUpgrade wsX6_upgradesMustWait := goodIn_r _ [9, 1, 10, 11, 12, 13, 14, 15, 146, 147, 148, 149, 150, 151, 152, 153, 154, 155, 156] (by decide +kernel) (by decide +kernel)
set_option maxRecDepth 20000 in
theorem gX6_beginDueUpgrade_X6_upgradesMustWait : GoodIn wsX6_beginDueUpgrade (wsV RX6 300 RX6 yX6_upgradesMustWait wsX6_upgradesMustWait) := goodIn_app (goodIn_of _ (by decide +kernel)) ggX6_beginDueUpgrade_X6_upgradesMustWait
set_option maxRecDepth 20000 in
theorem ggX6_beginDueUpgrade_X6_firstBlocked : GoodIn wsX6_beginDueUpgrade wsX6_firstBlocked := goodIn_r _ [19, 1, 4, 20, 146, 147, 148, 149, 150, 151, 152, 153, 154, 155, 156] (by decide +kernel) (by decide +kernel)
set_option maxRecDepth 20000 in
theorem gX6_beginDueUpgrade_X6_firstBlocked : GoodIn wsX6_beginDueUpgrade (wsV RX6 309 RX6 yX6_firstBlocked wsX6_firstBlocked) := goodIn_app (goodIn_of _ (by decide +kernel)) ggX6_beginDueUpgrade_X6_firstBlocked
set_option maxRecDepth 20000 in
theorem ggX6_beginDueUpgrade_X6_beginUpgrade : GoodIn wsX6_beginDueUpgrade wsX6_beginUpgrade := goodIn_r _ [24, 4, 25, 26, 27, 28, 29, 30, 31, 32, 33, 34, 35, 36, 37, 38, 39, 40, 41, 42, 43, 44, 45, 46, 47, 48, 49, 50, 51, 52, 53, 54, 55, 56, 57, 58, 59, 60, 61, 62, 63, 64, 65, 66, 67, 68, 69, 70, 71, 72, 73, 74, 75, 76, 77, 78, 79, 80, 81, 82, 83, 84, 85, 86, 87, 88, 89, 90, 91, 92, 93, 94, 95, 96, 97, 98, 99, 100, 101, 102, 8, 103, 104, 105, 106, 107, 108, 109, 110, 111, 112, 113, 114, 115, 116, 117, 118, 119, 120, 121, 122, 123, 124, 125, 126, 127, 128, 129, 130, 131, 132, 133, 134, 135, 136, 137, 138, 139, 140, 141, 142, 143, 144, 145, 154, 155, 156, 146, 147, 148, 149, 150, 151, 152, 153, 157, 158, 159, 160, 161, 162, 163, 164, 165, 166] (by decide +kernel) (by decide +kernel)
set_option maxRecDepth 20000 in
theorem gX6_beginDueUpgrade_X6_beginUpgrade : GoodIn wsX6_beginDueUpgrade (wsV RX6 313 RX6 yX6_beginUpgrade wsX6_beginUpgrade) := goodIn_app (goodIn_of _ (by decide +kernel)) ggX6_beginDueUpgrade_X6_beginUpgrade
theorem dX6_beginDueUpgrade_0 : decode cX6_beginDueUpgrade 0 = .ok (.iconst 0, 1) := by decide +kernel
theorem dX6_beginDueUpgrade_1 : decode cX6_beginDueUpgrade 1 = .ok (.istore_n 1, 1) := by decide +kernel
theorem dX6_beginDueUpgrade_2 : decode cX6_beginDueUpgrade 2 = .ok (.iload_n 1, 1) := by decide +kernel
theorem dX6_beginDueUpgrade_3 : decode cX6_beginDueUpgrade 3 = .ok (.aload_n 0, 1) := by decide +kernel
theorem dX6_beginDueUpgrade_4 : decode cX6_beginDueUpgrade 4 = .ok (.getfield 11, 3) := by decide +kernel
theorem dX6_beginDueUpgrade_7 : decode cX6_beginDueUpgrade 7 = .ok (.arraylength, 1) := by decide +kernel
theorem dX6_beginDueUpgrade_8 : decode cX6_beginDueUpgrade 8 = .ok (.if_icmp .ge 50, 3) := by decide +kernel
theorem dX6_beginDueUpgrade_11 : decode cX6_beginDueUpgrade 11 = .ok (.aload_n 0, 1) := by decide +kernel
theorem dX6_beginDueUpgrade_12 : decode cX6_beginDueUpgrade 12 = .ok (.invokevirtual 300, 3) := by decide +kernel
theorem dX6_beginDueUpgrade_15 : decode cX6_beginDueUpgrade 15 = .ok (.ifCond .ne 43, 3) := by decide +kernel
theorem dX6_beginDueUpgrade_18 : decode cX6_beginDueUpgrade 18 = .ok (.aload_n 0, 1) := by decide +kernel
theorem dX6_beginDueUpgrade_19 : decode cX6_beginDueUpgrade 19 = .ok (.invokevirtual 309, 3) := by decide +kernel
theorem dX6_beginDueUpgrade_22 : decode cX6_beginDueUpgrade 22 = .ok (.astore_n 2, 1) := by decide +kernel
theorem dX6_beginDueUpgrade_23 : decode cX6_beginDueUpgrade 23 = .ok (.aload_n 2, 1) := by decide +kernel
theorem dX6_beginDueUpgrade_24 : decode cX6_beginDueUpgrade 24 = .ok (.ifnonnull 4, 3) := by decide +kernel
theorem dX6_beginDueUpgrade_27 : decode cX6_beginDueUpgrade 27 = .ok (.return_, 1) := by decide +kernel
theorem dX6_beginDueUpgrade_28 : decode cX6_beginDueUpgrade 28 = .ok (.aload_n 2, 1) := by decide +kernel
theorem dX6_beginDueUpgrade_29 : decode cX6_beginDueUpgrade 29 = .ok (.getfield 68, 3) := by decide +kernel
theorem dX6_beginDueUpgrade_32 : decode cX6_beginDueUpgrade 32 = .ok (.aload_n 0, 1) := by decide +kernel
theorem dX6_beginDueUpgrade_33 : decode cX6_beginDueUpgrade 33 = .ok (.getfield 34, 3) := by decide +kernel
theorem dX6_beginDueUpgrade_36 : decode cX6_beginDueUpgrade 36 = .ok (.if_icmp .le 11, 3) := by decide +kernel
theorem dX6_beginDueUpgrade_39 : decode cX6_beginDueUpgrade 39 = .ok (.aload_n 0, 1) := by decide +kernel
theorem dX6_beginDueUpgrade_40 : decode cX6_beginDueUpgrade 40 = .ok (.aload_n 2, 1) := by decide +kernel
theorem dX6_beginDueUpgrade_41 : decode cX6_beginDueUpgrade 41 = .ok (.invokevirtual 313, 3) := by decide +kernel
theorem dX6_beginDueUpgrade_44 : decode cX6_beginDueUpgrade 44 = .ok (.goto 8, 3) := by decide +kernel
theorem dX6_beginDueUpgrade_47 : decode cX6_beginDueUpgrade 47 = .ok (.aload_n 2, 1) := by decide +kernel
theorem dX6_beginDueUpgrade_48 : decode cX6_beginDueUpgrade 48 = .ok (.iconst 0, 1) := by decide +kernel
theorem dX6_beginDueUpgrade_49 : decode cX6_beginDueUpgrade 49 = .ok (.putfield 65, 3) := by decide +kernel
theorem dX6_beginDueUpgrade_52 : decode cX6_beginDueUpgrade 52 = .ok (.iinc 1 1, 3) := by decide +kernel
theorem dX6_beginDueUpgrade_55 : decode cX6_beginDueUpgrade 55 = .ok (.goto (-53), 3) := by decide +kernel
theorem dX6_beginDueUpgrade_58 : decode cX6_beginDueUpgrade 58 = .ok (.return_, 1) := by decide +kernel
theorem dX6_firstBlocked_0 : decode cX6_firstBlocked 0 = .ok (.aconst_null, 1) := by decide +kernel
theorem dX6_firstBlocked_1 : decode cX6_firstBlocked 1 = .ok (.astore_n 1, 1) := by decide +kernel
theorem dX6_firstBlocked_2 : decode cX6_firstBlocked 2 = .ok (.iconst 0, 1) := by decide +kernel
theorem dX6_firstBlocked_3 : decode cX6_firstBlocked 3 = .ok (.istore_n 2, 1) := by decide +kernel
theorem dX6_firstBlocked_4 : decode cX6_firstBlocked 4 = .ok (.iload_n 2, 1) := by decide +kernel
theorem dX6_firstBlocked_5 : decode cX6_firstBlocked 5 = .ok (.aload_n 0, 1) := by decide +kernel
theorem dX6_firstBlocked_6 : decode cX6_firstBlocked 6 = .ok (.getfield 11, 3) := by decide +kernel
theorem dX6_firstBlocked_9 : decode cX6_firstBlocked 9 = .ok (.arraylength, 1) := by decide +kernel
theorem dX6_firstBlocked_10 : decode cX6_firstBlocked 10 = .ok (.if_icmp .ge 41, 3) := by decide +kernel
theorem dX6_firstBlocked_13 : decode cX6_firstBlocked 13 = .ok (.aload_n 0, 1) := by decide +kernel
theorem dX6_firstBlocked_14 : decode cX6_firstBlocked 14 = .ok (.getfield 11, 3) := by decide +kernel
theorem dX6_firstBlocked_17 : decode cX6_firstBlocked 17 = .ok (.iload_n 2, 1) := by decide +kernel
theorem dX6_firstBlocked_18 : decode cX6_firstBlocked 18 = .ok (.aaload, 1) := by decide +kernel
theorem dX6_firstBlocked_19 : decode cX6_firstBlocked 19 = .ok (.astore_n 3, 1) := by decide +kernel
theorem dX6_firstBlocked_20 : decode cX6_firstBlocked 20 = .ok (.aload_n 3, 1) := by decide +kernel
theorem dX6_firstBlocked_21 : decode cX6_firstBlocked 21 = .ok (.getfield 65, 3) := by decide +kernel
theorem dX6_firstBlocked_24 : decode cX6_firstBlocked 24 = .ok (.iconst 3, 1) := by decide +kernel
theorem dX6_firstBlocked_25 : decode cX6_firstBlocked 25 = .ok (.if_icmp .ne 20, 3) := by decide +kernel
theorem dX6_firstBlocked_28 : decode cX6_firstBlocked 28 = .ok (.aload_n 1, 1) := by decide +kernel
theorem dX6_firstBlocked_29 : decode cX6_firstBlocked 29 = .ok (.ifnull 14, 3) := by decide +kernel
theorem dX6_firstBlocked_32 : decode cX6_firstBlocked 32 = .ok (.aload_n 3, 1) := by decide +kernel
theorem dX6_firstBlocked_33 : decode cX6_firstBlocked 33 = .ok (.getfield 71, 3) := by decide +kernel
theorem dX6_firstBlocked_36 : decode cX6_firstBlocked 36 = .ok (.aload_n 1, 1) := by decide +kernel
theorem dX6_firstBlocked_37 : decode cX6_firstBlocked 37 = .ok (.getfield 71, 3) := by decide +kernel
theorem dX6_firstBlocked_40 : decode cX6_firstBlocked 40 = .ok (.if_icmp .ge 5, 3) := by decide +kernel
theorem dX6_firstBlocked_43 : decode cX6_firstBlocked 43 = .ok (.aload_n 3, 1) := by decide +kernel
theorem dX6_firstBlocked_44 : decode cX6_firstBlocked 44 = .ok (.astore_n 1, 1) := by decide +kernel
theorem dX6_firstBlocked_45 : decode cX6_firstBlocked 45 = .ok (.iinc 2 1, 3) := by decide +kernel
theorem dX6_firstBlocked_48 : decode cX6_firstBlocked 48 = .ok (.goto (-44), 3) := by decide +kernel
theorem dX6_firstBlocked_51 : decode cX6_firstBlocked 51 = .ok (.aload_n 1, 1) := by decide +kernel
theorem dX6_firstBlocked_52 : decode cX6_firstBlocked 52 = .ok (.areturn, 1) := by decide +kernel
set_option maxRecDepth 20000 in
theorem ggX6_beginUpgrade_Jx4a65c_size_8abf5 : GoodIn wsX6_beginUpgrade wsJx4a65c_size_8abf5 := goodIn_r _ [11, 12, 139, 140, 141] (by decide +kernel) (by decide +kernel)
set_option maxRecDepth 20000 in
theorem gX6_beginUpgrade_Jx4a65c_size_8abf5_f83Jx4a65c : GoodIn wsX6_beginUpgrade (va_wsF RX6 83 RJx4a65c ⟨"java/util/List", "size", "()I"⟩ yJx4a65c_size_8abf5 wsJx4a65c_size_8abf5) := goodIn_app (goodIn_of _ (by decide +kernel)) ggX6_beginUpgrade_Jx4a65c_size_8abf5
set_option maxRecDepth 20000 in
theorem ggX6_beginUpgrade_X5_init : GoodIn wsX6_beginUpgrade wsX5_init := goodIn_r _ [15, 16, 17, 18, 19, 20, 21, 22, 135, 136, 137, 138] (by decide +kernel) (by decide +kernel)
set_option maxRecDepth 20000 in
theorem gX6_beginUpgrade_X5_init : GoodIn wsX6_beginUpgrade (wsX5_init) := ggX6_beginUpgrade_X5_init
set_option maxRecDepth 20000 in
theorem ggX6_beginUpgrade_Jx4a65c_add_9ea2d : GoodIn wsX6_beginUpgrade wsJx4a65c_add_9ea2d := goodIn_r _ [26, 27, 28, 29, 12, 30, 31, 32, 10, 33, 34, 35, 36, 37, 38, 39, 40, 41, 42, 43, 44, 45, 46, 47, 48, 49, 50, 51, 52, 53, 54, 55, 56, 57, 58, 59, 60, 61, 62, 63, 64, 65, 66, 67, 68, 69, 70, 71, 72, 73, 74, 75, 76, 139, 140, 141] (by decide +kernel) (by decide +kernel)
set_option maxRecDepth 20000 in
theorem gX6_beginUpgrade_Jx4a65c_add_9ea2d_f169Jx4a65c : GoodIn wsX6_beginUpgrade (va_wsF RX6 169 RJx4a65c ⟨"java/util/List", "add", "(Ljava/lang/Object;)Z"⟩ yJx4a65c_add_9ea2d wsJx4a65c_add_9ea2d) := goodIn_app (goodIn_of _ (by decide +kernel)) ggX6_beginUpgrade_Jx4a65c_add_9ea2d
set_option maxRecDepth 20000 in
theorem ggX6_beginUpgrade_X6_run : GoodIn wsX6_beginUpgrade wsX6_run := goodIn_r _ [81, 82, 83, 84, 85, 86, 87, 80, 88, 89, 90, 91, 6, 92, 21, 93, 94, 95, 96, 97, 98, 99, 100, 101, 102, 103, 104, 10, 105, 27, 28, 29, 12, 106, 8, 9, 11, 107, 108, 109, 110, 111, 112, 113, 114, 115, 116, 117, 118, 119, 120, 121, 122, 123, 24, 25, 26, 30, 31, 32, 33, 34, 35, 36, 37, 38, 39, 40, 41, 42, 43, 44, 45, 46, 47, 48, 49, 50, 51, 52, 53, 54, 55, 56, 57, 58, 59, 60, 61, 62, 63, 64, 65, 66, 67, 68, 69, 70, 71, 72, 73, 74, 75, 76, 135, 136, 137, 138, 127, 128, 129, 130, 131, 132, 133, 134, 142, 143, 144, 139, 140, 141] (by decide +kernel) (by decide +kernel)
set_option maxRecDepth 20000 in
theorem gX6_beginUpgrade_X6_run : GoodIn wsX6_beginUpgrade (wsV RX6 316 RX6 yX6_run wsX6_run) := goodIn_app (goodIn_of _ (by decide +kernel)) ggX6_beginUpgrade_X6_run
theorem dX6_beginUpgrade_0 : decode cX6_beginUpgrade 0 = .ok (.aload_n 1, 1) := by decide +kernel
theorem dX6_beginUpgrade_1 : decode cX6_beginUpgrade 1 = .ok (.iconst 2, 1) := by decide +kernel
theorem dX6_beginUpgrade_2 : decode cX6_beginUpgrade 2 = .ok (.putfield 65, 3) := by decide +kernel
theorem dX6_beginUpgrade_5 : decode cX6_beginUpgrade 5 = .ok (.aload_n 0, 1) := by decide +kernel
theorem dX6_beginUpgrade_6 : decode cX6_beginUpgrade 6 = .ok (.aload_n 0, 1) := by decide +kernel
theorem dX6_beginUpgrade_7 : decode cX6_beginUpgrade 7 = .ok (.getfield 27, 3) := by decide +kernel
theorem dX6_beginUpgrade_10 : decode cX6_beginUpgrade 10 = .ok (.invokeinterface 83 1, 5) := by decide +kernel
theorem dX6_beginUpgrade_15 : decode cX6_beginUpgrade 15 = .ok (.putfield 38, 3) := by decide +kernel
theorem dX6_beginUpgrade_18 : decode cX6_beginUpgrade 18 = .ok (.new 93, 3) := by decide +kernel
theorem dX6_beginUpgrade_21 : decode cX6_beginUpgrade 21 = .ok (.dup, 1) := by decide +kernel
theorem dX6_beginUpgrade_22 : decode cX6_beginUpgrade 22 = .ok (.aload_n 1, 1) := by decide +kernel
theorem dX6_beginUpgrade_23 : decode cX6_beginUpgrade 23 = .ok (.bipush 7, 2) := by decide +kernel
theorem dX6_beginUpgrade_25 : decode cX6_beginUpgrade 25 = .ok (.iconst 1, 1) := by decide +kernel
theorem dX6_beginUpgrade_26 : decode cX6_beginUpgrade 26 = .ok (.invokespecial 166, 3) := by decide +kernel
theorem dX6_beginUpgrade_29 : decode cX6_beginUpgrade 29 = .ok (.astore_n 2, 1) := by decide +kernel
theorem dX6_beginUpgrade_30 : decode cX6_beginUpgrade 30 = .ok (.aload_n 0, 1) := by decide +kernel
theorem dX6_beginUpgrade_31 : decode cX6_beginUpgrade 31 = .ok (.getfield 27, 3) := by decide +kernel
theorem dX6_beginUpgrade_34 : decode cX6_beginUpgrade 34 = .ok (.aload_n 2, 1) := by decide +kernel
theorem dX6_beginUpgrade_35 : decode cX6_beginUpgrade 35 = .ok (.invokeinterface 169 2, 5) := by decide +kernel
theorem dX6_beginUpgrade_40 : decode cX6_beginUpgrade 40 = .ok (.pop, 1) := by decide +kernel
theorem dX6_beginUpgrade_41 : decode cX6_beginUpgrade 41 = .ok (.aload_n 0, 1) := by decide +kernel
theorem dX6_beginUpgrade_42 : decode cX6_beginUpgrade 42 = .ok (.aload_n 2, 1) := by decide +kernel
theorem dX6_beginUpgrade_43 : decode cX6_beginUpgrade 43 = .ok (.invokevirtual 316, 3) := by decide +kernel
theorem dX6_beginUpgrade_46 : decode cX6_beginUpgrade 46 = .ok (.return_, 1) := by decide +kernel
set_option maxRecDepth 20000 in
theorem ggX6_runFreed_Jx4a65c_size_8abf5 : GoodIn wsX6_runFreed wsJx4a65c_size_8abf5 := goodIn_r _ [8, 9, 138, 139, 140] (by decide +kernel) (by decide +kernel)
set_option maxRecDepth 20000 in
theorem gX6_runFreed_Jx4a65c_size_8abf5_f83Jx4a65c : GoodIn wsX6_runFreed (va_wsF RX6 83 RJx4a65c ⟨"java/util/List", "size", "()I"⟩ yJx4a65c_size_8abf5 wsJx4a65c_size_8abf5) := goodIn_app (goodIn_of _ (by decide +kernel)) ggX6_runFreed_Jx4a65c_size_8abf5
set_option maxRecDepth 20000 in
theorem ggX6_runFreed_Jx4a65c_get_915e3 : GoodIn wsX6_runFreed wsJx4a65c_get_915e3 := goodIn_r _ [13, 9, 14, 15, 16, 17, 18, 19, 20, 21, 22, 23, 24, 7, 25, 26, 138, 139, 140] (by decide +kernel) (by decide +kernel)
set_option maxRecDepth 20000 in
theorem gX6_runFreed_Jx4a65c_get_915e3_f89Jx4a65c : GoodIn wsX6_runFreed (va_wsF RX6 89 RJx4a65c ⟨"java/util/List", "get", "(I)Ljava/lang/Object;"⟩ yJx4a65c_get_915e3 wsJx4a65c_get_915e3) := goodIn_app (goodIn_of _ (by decide +kernel)) ggX6_runFreed_Jx4a65c_get_915e3
set_option maxRecDepth 20000 in
theorem ggX6_runFreed_X6_mustWait : GoodIn wsX6_runFreed wsX6_mustWait := goodIn_r _ [31, 1, 2, 4, 5, 6, 7, 8, 9, 10, 11, 12, 13, 14, 15, 16, 17, 18, 19, 20, 21, 22, 23, 24, 25, 26, 32, 33, 34, 35, 36, 37, 38, 39, 40, 41, 42, 43, 126, 127, 128, 129, 130, 131, 132, 133, 138, 139, 140, 134, 135, 136, 137] (by decide +kernel) (by decide +kernel)
set_option maxRecDepth 20000 in
theorem gX6_runFreed_X6_mustWait : GoodIn wsX6_runFreed (wsV RX6 319 RX6 yX6_mustWait wsX6_mustWait) := goodIn_app (goodIn_of _ (by decide +kernel)) ggX6_runFreed_X6_mustWait
set_option maxRecDepth 20000 in
theorem ggX6_runFreed_X6_run : GoodIn wsX6_runFreed wsX6_run := goodIn_r _ [47, 3, 48, 49, 50, 51, 52, 30, 53, 54, 55, 56, 35, 57, 42, 58, 59, 60, 61, 62, 63, 64, 65, 66, 67, 68, 69, 7, 70, 71, 72, 26, 9, 73, 5, 6, 8, 74, 11, 12, 13, 14, 15, 16, 17, 18, 19, 20, 21, 22, 23, 24, 25, 75, 76, 77, 78, 79, 80, 81, 82, 83, 84, 85, 86, 87, 88, 89, 90, 91, 92, 93, 94, 95, 96, 97, 98, 99, 100, 101, 102, 103, 104, 105, 106, 107, 108, 109, 110, 111, 112, 113, 114, 115, 116, 117, 118, 119, 120, 121, 122, 123, 124, 125, 134, 135, 136, 137, 126, 127, 128, 129, 130, 131, 132, 133, 141, 142, 143, 138, 139, 140] (by decide +kernel) (by decide +kernel)
set_option maxRecDepth 20000 in
theorem gX6_runFreed_X6_run : GoodIn wsX6_runFreed (wsV RX6 316 RX6 yX6_run wsX6_run) := goodIn_app (goodIn_of _ (by decide +kernel)) ggX6_runFreed_X6_run
theorem dX6_runFreed_0 : decode cX6_runFreed 0 = .ok (.iconst 0, 1) := by decide +kernel
theorem dX6_runFreed_1 : decode cX6_runFreed 1 = .ok (.istore_n 1, 1) := by decide +kernel
theorem dX6_runFreed_2 : decode cX6_runFreed 2 = .ok (.iconst 0, 1) := by decide +kernel
theorem dX6_runFreed_3 : decode cX6_runFreed 3 = .ok (.istore_n 2, 1) := by decide +kernel
theorem dX6_runFreed_4 : decode cX6_runFreed 4 = .ok (.iload_n 2, 1) := by decide +kernel
theorem dX6_runFreed_5 : decode cX6_runFreed 5 = .ok (.aload_n 0, 1) := by decide +kernel
theorem dX6_runFreed_6 : decode cX6_runFreed 6 = .ok (.getfield 27, 3) := by decide +kernel
theorem dX6_runFreed_9 : decode cX6_runFreed 9 = .ok (.invokeinterface 83 1, 5) := by decide +kernel
theorem dX6_runFreed_14 : decode cX6_runFreed 14 = .ok (.if_icmp .ge 46, 3) := by decide +kernel
theorem dX6_runFreed_17 : decode cX6_runFreed 17 = .ok (.aload_n 0, 1) := by decide +kernel
theorem dX6_runFreed_18 : decode cX6_runFreed 18 = .ok (.getfield 27, 3) := by decide +kernel
theorem dX6_runFreed_21 : decode cX6_runFreed 21 = .ok (.iload_n 2, 1) := by decide +kernel
theorem dX6_runFreed_22 : decode cX6_runFreed 22 = .ok (.invokeinterface 89 2, 5) := by decide +kernel
theorem dX6_runFreed_27 : decode cX6_runFreed 27 = .ok (.checkcast 93, 3) := by decide +kernel
theorem dX6_runFreed_30 : decode cX6_runFreed 30 = .ok (.astore_n 3, 1) := by decide +kernel
theorem dX6_runFreed_31 : decode cX6_runFreed 31 = .ok (.aload_n 3, 1) := by decide +kernel
theorem dX6_runFreed_32 : decode cX6_runFreed 32 = .ok (.getfield 173, 3) := by decide +kernel
theorem dX6_runFreed_35 : decode cX6_runFreed 35 = .ok (.ifCond .ne 19, 3) := by decide +kernel
theorem dX6_runFreed_38 : decode cX6_runFreed 38 = .ok (.aload_n 0, 1) := by decide +kernel
theorem dX6_runFreed_39 : decode cX6_runFreed 39 = .ok (.aload_n 3, 1) := by decide +kernel
theorem dX6_runFreed_40 : decode cX6_runFreed 40 = .ok (.invokevirtual 319, 3) := by decide +kernel
theorem dX6_runFreed_43 : decode cX6_runFreed 43 = .ok (.ifCond .ne 11, 3) := by decide +kernel
theorem dX6_runFreed_46 : decode cX6_runFreed 46 = .ok (.aload_n 0, 1) := by decide +kernel
theorem dX6_runFreed_47 : decode cX6_runFreed 47 = .ok (.aload_n 3, 1) := by decide +kernel
theorem dX6_runFreed_48 : decode cX6_runFreed 48 = .ok (.invokevirtual 316, 3) := by decide +kernel
theorem dX6_runFreed_51 : decode cX6_runFreed 51 = .ok (.iinc 1 1, 3) := by decide +kernel
theorem dX6_runFreed_54 : decode cX6_runFreed 54 = .ok (.iinc 2 1, 3) := by decide +kernel
theorem dX6_runFreed_57 : decode cX6_runFreed 57 = .ok (.goto (-53), 3) := by decide +kernel
theorem dX6_runFreed_60 : decode cX6_runFreed 60 = .ok (.iload_n 1, 1) := by decide +kernel
theorem dX6_runFreed_61 : decode cX6_runFreed 61 = .ok (.ireturn, 1) := by decide +kernel
set_option maxRecDepth 20000 in
theorem ggX6_mustWait_Jx4a65c_size_8abf5 : GoodIn wsX6_mustWait wsJx4a65c_size_8abf5 := goodIn_r _ [7, 8, 46, 47, 48] (by decide +kernel) (by decide +kernel)
set_option maxRecDepth 20000 in
theorem gX6_mustWait_Jx4a65c_size_8abf5_f83Jx4a65c : GoodIn wsX6_mustWait (va_wsF RX6 83 RJx4a65c ⟨"java/util/List", "size", "()I"⟩ yJx4a65c_size_8abf5 wsJx4a65c_size_8abf5) := goodIn_app (goodIn_of _ (by decide +kernel)) ggX6_mustWait_Jx4a65c_size_8abf5
set_option maxRecDepth 20000 in
theorem ggX6_mustWait_Jx4a65c_get_915e3 : GoodIn wsX6_mustWait wsJx4a65c_get_915e3 := goodIn_r _ [12, 8, 13, 14, 15, 16, 17, 18, 19, 20, 21, 22, 23, 6, 24, 25, 46, 47, 48] (by decide +kernel) (by decide +kernel)
set_option maxRecDepth 20000 in
theorem gX6_mustWait_Jx4a65c_get_915e3_f89Jx4a65c : GoodIn wsX6_mustWait (va_wsF RX6 89 RJx4a65c ⟨"java/util/List", "get", "(I)Ljava/lang/Object;"⟩ yJx4a65c_get_915e3 wsJx4a65c_get_915e3) := goodIn_app (goodIn_of _ (by decide +kernel)) ggX6_mustWait_Jx4a65c_get_915e3
set_option maxRecDepth 20000 in
theorem ggX6_mustWait_X5_isPending : GoodIn wsX6_mustWait wsX5_isPending := goodIn_r _ [30, 31, 49, 50, 51, 52] (by decide +kernel) (by decide +kernel)
set_option maxRecDepth 20000 in
theorem gX6_mustWait_X5_isPending : GoodIn wsX6_mustWait (wsV RX6 99 RX5 yX5_isPending wsX5_isPending) := goodIn_app (goodIn_of _ (by decide +kernel)) ggX6_mustWait_X5_isPending
set_option maxRecDepth 20000 in
theorem ggX6_mustWait_X5_conflictsWith : GoodIn wsX6_mustWait wsX5_conflictsWith := goodIn_r _ [35, 36, 37, 49, 50, 51, 52] (by decide +kernel) (by decide +kernel)
set_option maxRecDepth 20000 in
theorem gX6_mustWait_X5_conflictsWith : GoodIn wsX6_mustWait (wsV RX6 323 RX5 yX5_conflictsWith wsX5_conflictsWith) := goodIn_app (goodIn_of _ (by decide +kernel)) ggX6_mustWait_X5_conflictsWith
theorem dX6_mustWait_0 : decode cX6_mustWait 0 = .ok (.iconst 0, 1) := by decide +kernel
theorem dX6_mustWait_1 : decode cX6_mustWait 1 = .ok (.istore_n 2, 1) := by decide +kernel
theorem dX6_mustWait_2 : decode cX6_mustWait 2 = .ok (.iload_n 2, 1) := by decide +kernel
theorem dX6_mustWait_3 : decode cX6_mustWait 3 = .ok (.aload_n 0, 1) := by decide +kernel
theorem dX6_mustWait_4 : decode cX6_mustWait 4 = .ok (.getfield 27, 3) := by decide +kernel
theorem dX6_mustWait_7 : decode cX6_mustWait 7 = .ok (.invokeinterface 83 1, 5) := by decide +kernel
theorem dX6_mustWait_12 : decode cX6_mustWait 12 = .ok (.if_icmp .ge 47, 3) := by decide +kernel
theorem dX6_mustWait_15 : decode cX6_mustWait 15 = .ok (.aload_n 0, 1) := by decide +kernel
theorem dX6_mustWait_16 : decode cX6_mustWait 16 = .ok (.getfield 27, 3) := by decide +kernel
theorem dX6_mustWait_19 : decode cX6_mustWait 19 = .ok (.iload_n 2, 1) := by decide +kernel
theorem dX6_mustWait_20 : decode cX6_mustWait 20 = .ok (.invokeinterface 89 2, 5) := by decide +kernel
theorem dX6_mustWait_25 : decode cX6_mustWait 25 = .ok (.checkcast 93, 3) := by decide +kernel
theorem dX6_mustWait_28 : decode cX6_mustWait 28 = .ok (.astore_n 3, 1) := by decide +kernel
theorem dX6_mustWait_29 : decode cX6_mustWait 29 = .ok (.aload_n 3, 1) := by decide +kernel
theorem dX6_mustWait_30 : decode cX6_mustWait 30 = .ok (.aload_n 1, 1) := by decide +kernel
theorem dX6_mustWait_31 : decode cX6_mustWait 31 = .ok (.if_acmp .ne 5, 3) := by decide +kernel
theorem dX6_mustWait_34 : decode cX6_mustWait 34 = .ok (.iconst 0, 1) := by decide +kernel
theorem dX6_mustWait_35 : decode cX6_mustWait 35 = .ok (.ireturn, 1) := by decide +kernel
theorem dX6_mustWait_36 : decode cX6_mustWait 36 = .ok (.aload_n 3, 1) := by decide +kernel
theorem dX6_mustWait_37 : decode cX6_mustWait 37 = .ok (.invokevirtual 99, 3) := by decide +kernel
theorem dX6_mustWait_40 : decode cX6_mustWait 40 = .ok (.ifCond .eq 13, 3) := by decide +kernel
theorem dX6_mustWait_43 : decode cX6_mustWait 43 = .ok (.aload_n 3, 1) := by decide +kernel
theorem dX6_mustWait_44 : decode cX6_mustWait 44 = .ok (.aload_n 1, 1) := by decide +kernel
theorem dX6_mustWait_45 : decode cX6_mustWait 45 = .ok (.invokevirtual 323, 3) := by decide +kernel
theorem dX6_mustWait_48 : decode cX6_mustWait 48 = .ok (.ifCond .eq 5, 3) := by decide +kernel
theorem dX6_mustWait_51 : decode cX6_mustWait 51 = .ok (.iconst 1, 1) := by decide +kernel
theorem dX6_mustWait_52 : decode cX6_mustWait 52 = .ok (.ireturn, 1) := by decide +kernel
theorem dX6_mustWait_53 : decode cX6_mustWait 53 = .ok (.iinc 2 1, 3) := by decide +kernel
theorem dX6_mustWait_56 : decode cX6_mustWait 56 = .ok (.goto (-54), 3) := by decide +kernel
theorem dX6_mustWait_59 : decode cX6_mustWait 59 = .ok (.iconst 0, 1) := by decide +kernel
theorem dX6_mustWait_60 : decode cX6_mustWait 60 = .ok (.ireturn, 1) := by decide +kernel
set_option maxRecDepth 20000 in
theorem ggX6_run_X6_copyScope : GoodIn wsX6_run wsX6_copyScope := goodIn_r _ [8, 9, 10, 11, 12, 13, 14, 15, 16, 17, 18, 19, 20, 21, 22, 23, 24, 25, 26, 27, 28, 29, 30, 31, 32, 33, 34, 35, 36, 37, 38, 39, 40, 41, 42, 43, 44, 45, 46, 47, 48, 49, 50, 51, 52, 53, 54, 55, 56, 57, 58, 59, 60, 61, 62, 63, 64, 65, 66, 67, 68, 69, 70, 71, 72, 73, 74, 75, 76, 77, 78, 79, 80, 81, 82, 83, 84, 85, 86, 87, 88, 89, 90, 91, 92, 93, 94, 95, 96, 97, 98, 99, 100, 101, 102, 103, 104, 105, 106, 107, 116, 117, 118, 119, 120, 121] (by decide +kernel) (by decide +kernel)
set_option maxRecDepth 20000 in
theorem gX6_run_X6_copyScope : GoodIn wsX6_run (va_wsS RX6 326 yX6_copyScope wsX6_copyScope) := goodIn_app (goodIn_of _ (by decide +kernel)) ggX6_run_X6_copyScope
theorem dX6_run_0 : decode cX6_run 0 = .ok (.aload_n 1, 1) := by decide +kernel
theorem dX6_run_1 : decode cX6_run 1 = .ok (.iconst 1, 1) := by decide +kernel
theorem dX6_run_2 : decode cX6_run 2 = .ok (.putfield 173, 3) := by decide +kernel
theorem dX6_run_5 : decode cX6_run 5 = .ok (.aload_n 1, 1) := by decide +kernel
theorem dX6_run_6 : decode cX6_run 6 = .ok (.getfield 255, 3) := by decide +kernel
theorem dX6_run_9 : decode cX6_run 9 = .ok (.ifCond .eq 15, 3) := by decide +kernel
theorem dX6_run_12 : decode cX6_run 12 = .ok (.aload_n 1, 1) := by decide +kernel
theorem dX6_run_13 : decode cX6_run 13 = .ok (.aload_n 0, 1) := by decide +kernel
theorem dX6_run_14 : decode cX6_run 14 = .ok (.getfield 17, 3) := by decide +kernel
theorem dX6_run_17 : decode cX6_run 17 = .ok (.aload_n 0, 1) := by decide +kernel
theorem dX6_run_18 : decode cX6_run 18 = .ok (.getfield 21, 3) := by decide +kernel
theorem dX6_run_21 : decode cX6_run 21 = .ok (.invokestatic 326, 3) := by decide +kernel
theorem dX6_run_24 : decode cX6_run 24 = .ok (.return_, 1) := by decide +kernel
set_option maxRecDepth 20000 in
theorem ggX6_giveUp_X6_copyScope : GoodIn wsX6_giveUp wsX6_copyScope := goodIn_r _ [8, 9, 10, 11, 12, 13, 14, 15, 16, 17, 18, 19, 20, 21, 22, 23, 24, 25, 26, 27, 28, 29, 30, 31, 32, 33, 34, 35, 36, 37, 38, 39, 40, 41, 42, 43, 44, 45, 46, 47, 48, 49, 50, 51, 52, 53, 54, 55, 56, 57, 58, 59, 60, 61, 62, 63, 64, 65, 66, 67, 68, 69, 70, 71, 72, 73, 74, 75, 76, 77, 78, 79, 80, 81, 82, 83, 84, 85, 86, 87, 88, 89, 90, 91, 92, 93, 94, 95, 96, 97, 98, 99, 100, 101, 102, 103, 104, 105, 106, 107, 116, 117, 118, 119, 120, 121] (by decide +kernel) (by decide +kernel)
set_option maxRecDepth 20000 in
theorem gX6_giveUp_X6_copyScope : GoodIn wsX6_giveUp (va_wsS RX6 326 yX6_copyScope wsX6_copyScope) := goodIn_app (goodIn_of _ (by decide +kernel)) ggX6_giveUp_X6_copyScope
theorem dX6_giveUp_0 : decode cX6_giveUp 0 = .ok (.aload_n 1, 1) := by decide +kernel
theorem dX6_giveUp_1 : decode cX6_giveUp 1 = .ok (.getfield 173, 3) := by decide +kernel
theorem dX6_giveUp_4 : decode cX6_giveUp 4 = .ok (.iconst 1, 1) := by decide +kernel
theorem dX6_giveUp_5 : decode cX6_giveUp 5 = .ok (.if_icmp .ne 22, 3) := by decide +kernel
theorem dX6_giveUp_8 : decode cX6_giveUp 8 = .ok (.aload_n 1, 1) := by decide +kernel
theorem dX6_giveUp_9 : decode cX6_giveUp 9 = .ok (.getfield 255, 3) := by decide +kernel
theorem dX6_giveUp_12 : decode cX6_giveUp 12 = .ok (.ifCond .eq 15, 3) := by decide +kernel
theorem dX6_giveUp_15 : decode cX6_giveUp 15 = .ok (.aload_n 1, 1) := by decide +kernel
theorem dX6_giveUp_16 : decode cX6_giveUp 16 = .ok (.aload_n 0, 1) := by decide +kernel
theorem dX6_giveUp_17 : decode cX6_giveUp 17 = .ok (.getfield 21, 3) := by decide +kernel
theorem dX6_giveUp_20 : decode cX6_giveUp 20 = .ok (.aload_n 0, 1) := by decide +kernel
theorem dX6_giveUp_21 : decode cX6_giveUp 21 = .ok (.getfield 17, 3) := by decide +kernel
theorem dX6_giveUp_24 : decode cX6_giveUp 24 = .ok (.invokestatic 326, 3) := by decide +kernel
theorem dX6_giveUp_27 : decode cX6_giveUp 27 = .ok (.aload_n 1, 1) := by decide +kernel
theorem dX6_giveUp_28 : decode cX6_giveUp 28 = .ok (.iconst 3, 1) := by decide +kernel
theorem dX6_giveUp_29 : decode cX6_giveUp 29 = .ok (.putfield 173, 3) := by decide +kernel
theorem dX6_giveUp_32 : decode cX6_giveUp 32 = .ok (.return_, 1) := by decide +kernel
set_option maxRecDepth 20000 in
theorem ggX6_copyScope_X5_hasInScope : GoodIn wsX6_copyScope wsX5_hasInScope := goodIn_r _ [5, 6, 96, 97, 98, 99] (by decide +kernel) (by decide +kernel)
set_option maxRecDepth 20000 in
theorem gX6_copyScope_X5_hasInScope : GoodIn wsX6_copyScope (wsV RX6 293 RX5 yX5_hasInScope wsX5_hasInScope) := goodIn_app (goodIn_of _ (by decide +kernel)) ggX6_copyScope_X5_hasInScope
set_option maxRecDepth 20000 in
theorem ggX6_copyScope_X3_takeOver : GoodIn wsX6_copyScope wsX3_takeOver := goodIn_r _ [11, 12, 13, 14, 15, 16, 17, 18, 19, 20, 21, 22, 23, 24, 25, 26, 27, 28, 29, 30, 31, 32, 33, 34, 35, 36, 37, 38, 39, 40, 41, 42, 43, 44, 45, 46, 47, 48, 49, 50, 51, 52, 53, 54, 55, 56, 57, 58, 59, 60, 61, 62, 63, 64, 65, 66, 67, 68, 69, 70, 71, 72, 73, 74, 75, 76, 77, 78, 79, 80, 81, 82, 83, 84, 85, 86, 87, 88, 89, 90, 91, 92, 93, 94, 95, 100, 101, 102, 103, 104, 105] (by decide +kernel) (by decide +kernel)
set_option maxRecDepth 20000 in
theorem gX6_copyScope_X3_takeOver : GoodIn wsX6_copyScope (wsV RX6 330 RX3 yX3_takeOver wsX3_takeOver) := goodIn_app (goodIn_of _ (by decide +kernel)) ggX6_copyScope_X3_takeOver
theorem dX6_copyScope_0 : decode cX6_copyScope 0 = .ok (.iconst 0, 1) := by decide +kernel
theorem dX6_copyScope_1 : decode cX6_copyScope 1 = .ok (.istore_n 3, 1) := by decide +kernel
theorem dX6_copyScope_2 : decode cX6_copyScope 2 = .ok (.iload_n 3, 1) := by decide +kernel
theorem dX6_copyScope_3 : decode cX6_copyScope 3 = .ok (.aload_n 1, 1) := by decide +kernel
theorem dX6_copyScope_4 : decode cX6_copyScope 4 = .ok (.arraylength, 1) := by decide +kernel
theorem dX6_copyScope_5 : decode cX6_copyScope 5 = .ok (.if_icmp .ge 32, 3) := by decide +kernel
theorem dX6_copyScope_8 : decode cX6_copyScope 8 = .ok (.iload_n 3, 1) := by decide +kernel
theorem dX6_copyScope_9 : decode cX6_copyScope 9 = .ok (.aload_n 2, 1) := by decide +kernel
theorem dX6_copyScope_10 : decode cX6_copyScope 10 = .ok (.arraylength, 1) := by decide +kernel
theorem dX6_copyScope_11 : decode cX6_copyScope 11 = .ok (.if_icmp .ge 26, 3) := by decide +kernel
theorem dX6_copyScope_14 : decode cX6_copyScope 14 = .ok (.aload_n 0, 1) := by decide +kernel
theorem dX6_copyScope_15 : decode cX6_copyScope 15 = .ok (.iload_n 3, 1) := by decide +kernel
theorem dX6_copyScope_16 : decode cX6_copyScope 16 = .ok (.invokevirtual 293, 3) := by decide +kernel
theorem dX6_copyScope_19 : decode cX6_copyScope 19 = .ok (.ifCond .eq 12, 3) := by decide +kernel
theorem dX6_copyScope_22 : decode cX6_copyScope 22 = .ok (.aload_n 2, 1) := by decide +kernel
theorem dX6_copyScope_23 : decode cX6_copyScope 23 = .ok (.iload_n 3, 1) := by decide +kernel
theorem dX6_copyScope_24 : decode cX6_copyScope 24 = .ok (.aaload, 1) := by decide +kernel
theorem dX6_copyScope_25 : decode cX6_copyScope 25 = .ok (.aload_n 1, 1) := by decide +kernel
theorem dX6_copyScope_26 : decode cX6_copyScope 26 = .ok (.iload_n 3, 1) := by decide +kernel
theorem dX6_copyScope_27 : decode cX6_copyScope 27 = .ok (.aaload, 1) := by decide +kernel
theorem dX6_copyScope_28 : decode cX6_copyScope 28 = .ok (.invokevirtual 330, 3) := by decide +kernel
theorem dX6_copyScope_31 : decode cX6_copyScope 31 = .ok (.iinc 3 1, 3) := by decide +kernel
theorem dX6_copyScope_34 : decode cX6_copyScope 34 = .ok (.goto (-32), 3) := by decide +kernel
theorem dX6_copyScope_37 : decode cX6_copyScope 37 = .ok (.return_, 1) := by decide +kernel
theorem dX6_areThere_0 : decode cX6_areThere 0 = .ok (.iconst 0, 1) := by decide +kernel
theorem dX6_areThere_1 : decode cX6_areThere 1 = .ok (.istore_n 2, 1) := by decide +kernel
theorem dX6_areThere_2 : decode cX6_areThere 2 = .ok (.iload_n 2, 1) := by decide +kernel
theorem dX6_areThere_3 : decode cX6_areThere 3 = .ok (.aload_n 0, 1) := by decide +kernel
theorem dX6_areThere_4 : decode cX6_areThere 4 = .ok (.getfield 17, 3) := by decide +kernel
theorem dX6_areThere_7 : decode cX6_areThere 7 = .ok (.arraylength, 1) := by decide +kernel
theorem dX6_areThere_8 : decode cX6_areThere 8 = .ok (.if_icmp .ge 32, 3) := by decide +kernel
theorem dX6_areThere_11 : decode cX6_areThere 11 = .ok (.iload_n 1, 1) := by decide +kernel
theorem dX6_areThere_12 : decode cX6_areThere 12 = .ok (.iload_n 2, 1) := by decide +kernel
theorem dX6_areThere_13 : decode cX6_areThere 13 = .ok (.ishr, 1) := by decide +kernel
theorem dX6_areThere_14 : decode cX6_areThere 14 = .ok (.iconst 1, 1) := by decide +kernel
theorem dX6_areThere_15 : decode cX6_areThere 15 = .ok (.iand, 1) := by decide +kernel
theorem dX6_areThere_16 : decode cX6_areThere 16 = .ok (.iconst 1, 1) := by decide +kernel
theorem dX6_areThere_17 : decode cX6_areThere 17 = .ok (.if_icmp .ne 17, 3) := by decide +kernel
theorem dX6_areThere_20 : decode cX6_areThere 20 = .ok (.aload_n 0, 1) := by decide +kernel
theorem dX6_areThere_21 : decode cX6_areThere 21 = .ok (.getfield 17, 3) := by decide +kernel
theorem dX6_areThere_24 : decode cX6_areThere 24 = .ok (.iload_n 2, 1) := by decide +kernel
theorem dX6_areThere_25 : decode cX6_areThere 25 = .ok (.aaload, 1) := by decide +kernel
theorem dX6_areThere_26 : decode cX6_areThere 26 = .ok (.getfield 127, 3) := by decide +kernel
theorem dX6_areThere_29 : decode cX6_areThere 29 = .ok (.ifCond .ne 5, 3) := by decide +kernel
theorem dX6_areThere_32 : decode cX6_areThere 32 = .ok (.iconst 0, 1) := by decide +kernel
theorem dX6_areThere_33 : decode cX6_areThere 33 = .ok (.ireturn, 1) := by decide +kernel
theorem dX6_areThere_34 : decode cX6_areThere 34 = .ok (.iinc 2 1, 3) := by decide +kernel
theorem dX6_areThere_37 : decode cX6_areThere 37 = .ok (.goto (-35), 3) := by decide +kernel
theorem dX6_areThere_40 : decode cX6_areThere 40 = .ok (.iconst 1, 1) := by decide +kernel
theorem dX6_areThere_41 : decode cX6_areThere 41 = .ok (.ireturn, 1) := by decide +kernel
set_option maxRecDepth 20000 in
theorem ggX6_rowsInAll_X3_size : GoodIn wsX6_rowsInAll wsX3_size := goodIn_r _ [6, 7, 8, 9, 10, 11, 12, 13, 22, 23, 24, 25, 26, 27] (by decide +kernel) (by decide +kernel)
set_option maxRecDepth 20000 in
theorem gX6_rowsInAll_X3_size : GoodIn wsX6_rowsInAll (wsV RX6 137 RX3 yX3_size wsX3_size) := goodIn_app (goodIn_of _ (by decide +kernel)) ggX6_rowsInAll_X3_size
theorem dX6_rowsInAll_0 : decode cX6_rowsInAll 0 = .ok (.iconst 0, 1) := by decide +kernel
theorem dX6_rowsInAll_1 : decode cX6_rowsInAll 1 = .ok (.istore_n 1, 1) := by decide +kernel
theorem dX6_rowsInAll_2 : decode cX6_rowsInAll 2 = .ok (.iconst 0, 1) := by decide +kernel
theorem dX6_rowsInAll_3 : decode cX6_rowsInAll 3 = .ok (.istore_n 2, 1) := by decide +kernel
theorem dX6_rowsInAll_4 : decode cX6_rowsInAll 4 = .ok (.iload_n 2, 1) := by decide +kernel
theorem dX6_rowsInAll_5 : decode cX6_rowsInAll 5 = .ok (.aload_n 0, 1) := by decide +kernel
theorem dX6_rowsInAll_6 : decode cX6_rowsInAll 6 = .ok (.getfield 17, 3) := by decide +kernel
theorem dX6_rowsInAll_9 : decode cX6_rowsInAll 9 = .ok (.arraylength, 1) := by decide +kernel
theorem dX6_rowsInAll_10 : decode cX6_rowsInAll 10 = .ok (.if_icmp .ge 21, 3) := by decide +kernel
theorem dX6_rowsInAll_13 : decode cX6_rowsInAll 13 = .ok (.iload_n 1, 1) := by decide +kernel
theorem dX6_rowsInAll_14 : decode cX6_rowsInAll 14 = .ok (.aload_n 0, 1) := by decide +kernel
theorem dX6_rowsInAll_15 : decode cX6_rowsInAll 15 = .ok (.getfield 17, 3) := by decide +kernel
theorem dX6_rowsInAll_18 : decode cX6_rowsInAll 18 = .ok (.iload_n 2, 1) := by decide +kernel
theorem dX6_rowsInAll_19 : decode cX6_rowsInAll 19 = .ok (.aaload, 1) := by decide +kernel
theorem dX6_rowsInAll_20 : decode cX6_rowsInAll 20 = .ok (.invokevirtual 137, 3) := by decide +kernel
theorem dX6_rowsInAll_23 : decode cX6_rowsInAll 23 = .ok (.iadd, 1) := by decide +kernel
theorem dX6_rowsInAll_24 : decode cX6_rowsInAll 24 = .ok (.istore_n 1, 1) := by decide +kernel
theorem dX6_rowsInAll_25 : decode cX6_rowsInAll 25 = .ok (.iinc 2 1, 3) := by decide +kernel
theorem dX6_rowsInAll_28 : decode cX6_rowsInAll 28 = .ok (.goto (-24), 3) := by decide +kernel
theorem dX6_rowsInAll_31 : decode cX6_rowsInAll 31 = .ok (.iload_n 1, 1) := by decide +kernel
theorem dX6_rowsInAll_32 : decode cX6_rowsInAll 32 = .ok (.ireturn, 1) := by decide +kernel
