set_option maxRecDepth 20000 in
theorem ggX5_init_X2_init : GoodIn wsX5_init wsX2_init := goodIn_r _ [27, 28, 2, 3, 29, 30, 31, 32, 33, 34, 35, 80, 81] (by decide +kernel) (by decide +kernel)
set_option maxRecDepth 20000 in
theorem gX5_init_X2_init : GoodIn wsX5_init (wsX2_init) := ggX5_init_X2_init
set_option maxRecDepth 20000 in
theorem ggX5_init_X4_init : GoodIn wsX5_init wsX4_init := goodIn_r _ [38, 39, 2, 3, 40, 41, 5, 6, 42, 43, 44, 45, 46, 26, 27, 28, 29, 30, 31, 32, 33, 34, 35, 88, 89, 90, 91, 80, 81] (by decide +kernel) (by decide +kernel)
set_option maxRecDepth 20000 in
theorem gX5_init_X4_init : GoodIn wsX5_init (wsX4_init) := ggX5_init_X4_init
set_option maxRecDepth 20000 in
theorem ggX5_init_X0_init : GoodIn wsX5_init wsX0_init := goodIn_r _ [49, 50, 2, 3, 51, 52, 5, 6, 53, 54, 55, 26, 27, 28, 29, 30, 31, 32, 33, 34, 35, 56, 57, 58, 59, 60, 61, 62, 92, 93, 94, 80, 81] (by decide +kernel) (by decide +kernel)
set_option maxRecDepth 20000 in
theorem gX5_init_X0_init : GoodIn wsX5_init (wsX0_init) := ggX5_init_X0_init
set_option maxRecDepth 20000 in
theorem ggX5_init_X1_init : GoodIn wsX5_init wsX1_init := goodIn_r _ [65, 66, 2, 3, 42, 67, 68, 69, 70, 71, 95, 96, 97, 98] (by decide +kernel) (by decide +kernel)
set_option maxRecDepth 20000 in
theorem gX5_init_X1_init : GoodIn wsX5_init (wsX1_init) := ggX5_init_X1_init
set_option maxRecDepth 20000 in
theorem ggX5_init_X3_init : GoodIn wsX5_init wsX3_init := goodIn_r _ [74, 75, 2, 3, 76, 5, 6, 77, 78, 79, 26, 27, 28, 29, 30, 31, 32, 33, 34, 35, 80, 81, 99, 100] (by decide +kernel) (by decide +kernel)
set_option maxRecDepth 20000 in
theorem gX5_init_X3_init : GoodIn wsX5_init (wsX3_init) := ggX5_init_X3_init
theorem dX5_init_0 : decode cX5_init 0 = .ok (.aload_n 0, 1) := by decide +kernel
theorem dX5_init_1 : decode cX5_init 1 = .ok (.invokespecial 1, 3) := by decide +kernel
theorem dX5_init_4 : decode cX5_init 4 = .ok (.aload_n 0, 1) := by decide +kernel
theorem dX5_init_5 : decode cX5_init 5 = .ok (.new 7, 3) := by decide +kernel
theorem dX5_init_8 : decode cX5_init 8 = .ok (.dup, 1) := by decide +kernel
theorem dX5_init_9 : decode cX5_init 9 = .ok (.bipush 24, 2) := by decide +kernel
theorem dX5_init_11 : decode cX5_init 11 = .ok (.invokespecial 11, 3) := by decide +kernel
theorem dX5_init_14 : decode cX5_init 14 = .ok (.putfield 14, 3) := by decide +kernel
theorem dX5_init_17 : decode cX5_init 17 = .ok (.aload_n 0, 1) := by decide +kernel
theorem dX5_init_18 : decode cX5_init 18 = .ok (.new 7, 3) := by decide +kernel
theorem dX5_init_21 : decode cX5_init 21 = .ok (.dup, 1) := by decide +kernel
theorem dX5_init_22 : decode cX5_init 22 = .ok (.bipush 24, 2) := by decide +kernel
theorem dX5_init_24 : decode cX5_init 24 = .ok (.invokespecial 11, 3) := by decide +kernel
theorem dX5_init_27 : decode cX5_init 27 = .ok (.putfield 18, 3) := by decide +kernel
theorem dX5_init_30 : decode cX5_init 30 = .ok (.aload_n 0, 1) := by decide +kernel
theorem dX5_init_31 : decode cX5_init 31 = .ok (.new 21, 3) := by decide +kernel
theorem dX5_init_34 : decode cX5_init 34 = .ok (.dup, 1) := by decide +kernel
theorem dX5_init_35 : decode cX5_init 35 = .ok (.invokespecial 23, 3) := by decide +kernel
theorem dX5_init_38 : decode cX5_init 38 = .ok (.putfield 24, 3) := by decide +kernel
theorem dX5_init_41 : decode cX5_init 41 = .ok (.aload_n 0, 1) := by decide +kernel
theorem dX5_init_42 : decode cX5_init 42 = .ok (.new 28, 3) := by decide +kernel
theorem dX5_init_45 : decode cX5_init 45 = .ok (.dup, 1) := by decide +kernel
theorem dX5_init_46 : decode cX5_init 46 = .ok (.invokespecial 30, 3) := by decide +kernel
theorem dX5_init_49 : decode cX5_init 49 = .ok (.putfield 31, 3) := by decide +kernel
theorem dX5_init_52 : decode cX5_init 52 = .ok (.aload_n 0, 1) := by decide +kernel
theorem dX5_init_53 : decode cX5_init 53 = .ok (.new 35, 3) := by decide +kernel
theorem dX5_init_56 : decode cX5_init 56 = .ok (.dup, 1) := by decide +kernel
theorem dX5_init_57 : decode cX5_init 57 = .ok (.invokespecial 37, 3) := by decide +kernel
theorem dX5_init_60 : decode cX5_init 60 = .ok (.putfield 38, 3) := by decide +kernel
theorem dX5_init_63 : decode cX5_init 63 = .ok (.aload_n 0, 1) := by decide +kernel
theorem dX5_init_64 : decode cX5_init 64 = .ok (.new 42, 3) := by decide +kernel
theorem dX5_init_67 : decode cX5_init 67 = .ok (.dup, 1) := by decide +kernel
theorem dX5_init_68 : decode cX5_init 68 = .ok (.invokespecial 44, 3) := by decide +kernel
theorem dX5_init_71 : decode cX5_init 71 = .ok (.putfield 45, 3) := by decide +kernel
theorem dX5_init_74 : decode cX5_init 74 = .ok (.return_, 1) := by decide +kernel
set_option maxRecDepth 20000 in
theorem ggX5_type_X5_isSign : GoodIn wsX5_type wsX5_isSign := goodIn_r _ [9] (by decide +kernel) (by decide +kernel)
set_option maxRecDepth 20000 in
theorem gX5_type_X5_isSign : GoodIn wsX5_type (va_wsS RX5 49 yX5_isSign wsX5_isSign) := goodIn_app (goodIn_of _ (by decide +kernel)) ggX5_type_X5_isSign
set_option maxRecDepth 20000 in
theorem ggX5_type_X2_size : GoodIn wsX5_type wsX2_size := goodIn_r _ [14, 15, 27, 28] (by decide +kernel) (by decide +kernel)
set_option maxRecDepth 20000 in
theorem gX5_type_X2_size : GoodIn wsX5_type (wsV RX5 60 RX2 yX2_size wsX2_size) := goodIn_app (goodIn_of _ (by decide +kernel)) ggX5_type_X2_size
set_option maxRecDepth 20000 in
theorem ggX5_type_X2_append : GoodIn wsX5_type wsX2_append := goodIn_r _ [19, 15, 20, 27, 28] (by decide +kernel) (by decide +kernel)
set_option maxRecDepth 20000 in
theorem gX5_type_X2_append : GoodIn wsX5_type (wsV RX5 69 RX2 yX2_append wsX2_append) := goodIn_app (goodIn_of _ (by decide +kernel)) ggX5_type_X2_append
theorem dX5_type_0 : decode cX5_type 0 = .ok (.iload_n 1, 1) := by decide +kernel
theorem dX5_type_1 : decode cX5_type 1 = .ok (.invokestatic 49, 3) := by decide +kernel
theorem dX5_type_4 : decode cX5_type 4 = .ok (.ifCond .ne 13, 3) := by decide +kernel
theorem dX5_type_7 : decode cX5_type 7 = .ok (.new 53, 3) := by decide +kernel
theorem dX5_type_10 : decode cX5_type 10 = .ok (.dup, 1) := by decide +kernel
theorem dX5_type_11 : decode cX5_type 11 = .ok (.ldc 55, 2) := by decide +kernel
theorem dX5_type_13 : decode cX5_type 13 = .ok (.invokespecial 57, 3) := by decide +kernel
theorem dX5_type_16 : decode cX5_type 16 = .ok (.athrow, 1) := by decide +kernel
theorem dX5_type_17 : decode cX5_type 17 = .ok (.aload_n 0, 1) := by decide +kernel
theorem dX5_type_18 : decode cX5_type 18 = .ok (.getfield 14, 3) := by decide +kernel
theorem dX5_type_21 : decode cX5_type 21 = .ok (.invokevirtual 60, 3) := by decide +kernel
theorem dX5_type_24 : decode cX5_type 24 = .ok (.bipush 24, 2) := by decide +kernel
theorem dX5_type_26 : decode cX5_type 26 = .ok (.if_icmp .lt 13, 3) := by decide +kernel
theorem dX5_type_29 : decode cX5_type 29 = .ok (.new 64, 3) := by decide +kernel
theorem dX5_type_32 : decode cX5_type 32 = .ok (.dup, 1) := by decide +kernel
theorem dX5_type_33 : decode cX5_type 33 = .ok (.ldc 66, 2) := by decide +kernel
theorem dX5_type_35 : decode cX5_type 35 = .ok (.invokespecial 68, 3) := by decide +kernel
theorem dX5_type_38 : decode cX5_type 38 = .ok (.athrow, 1) := by decide +kernel
theorem dX5_type_39 : decode cX5_type 39 = .ok (.aload_n 0, 1) := by decide +kernel
theorem dX5_type_40 : decode cX5_type 40 = .ok (.getfield 14, 3) := by decide +kernel
theorem dX5_type_43 : decode cX5_type 43 = .ok (.iload_n 1, 1) := by decide +kernel
theorem dX5_type_44 : decode cX5_type 44 = .ok (.invokevirtual 69, 3) := by decide +kernel
theorem dX5_type_47 : decode cX5_type 47 = .ok (.aload_n 0, 1) := by decide +kernel
theorem dX5_type_48 : decode cX5_type 48 = .ok (.getfield 14, 3) := by decide +kernel
theorem dX5_type_51 : decode cX5_type 51 = .ok (.invokevirtual 60, 3) := by decide +kernel
theorem dX5_type_54 : decode cX5_type 54 = .ok (.ireturn, 1) := by decide +kernel
set_option maxRecDepth 20000 in
theorem ggX5_typeMore_X2_size : GoodIn wsX5_typeMore wsX2_size := goodIn_r _ [11, 12, 28, 29] (by decide +kernel) (by decide +kernel)
set_option maxRecDepth 20000 in
theorem gX5_typeMore_X2_size : GoodIn wsX5_typeMore (wsV RX5 60 RX2 yX2_size wsX2_size) := goodIn_app (goodIn_of _ (by decide +kernel)) ggX5_typeMore_X2_size
set_option maxRecDepth 20000 in
theorem ggX5_typeMore_X5_signOf : GoodIn wsX5_typeMore wsX5_signOf := goodIn_r _ [16] (by decide +kernel) (by decide +kernel)
set_option maxRecDepth 20000 in
theorem gX5_typeMore_X5_signOf : GoodIn wsX5_typeMore (va_wsS RX5 78 yX5_signOf wsX5_signOf) := goodIn_app (goodIn_of _ (by decide +kernel)) ggX5_typeMore_X5_signOf
set_option maxRecDepth 20000 in
theorem ggX5_typeMore_X2_append : GoodIn wsX5_typeMore wsX2_append := goodIn_r _ [20, 12, 21, 28, 29] (by decide +kernel) (by decide +kernel)
set_option maxRecDepth 20000 in
theorem gX5_typeMore_X2_append : GoodIn wsX5_typeMore (wsV RX5 69 RX2 yX2_append wsX2_append) := goodIn_app (goodIn_of _ (by decide +kernel)) ggX5_typeMore_X2_append
theorem dX5_typeMore_0 : decode cX5_typeMore 0 = .ok (.iload_n 1, 1) := by decide +kernel
theorem dX5_typeMore_1 : decode cX5_typeMore 1 = .ok (.iconst 1, 1) := by decide +kernel
theorem dX5_typeMore_2 : decode cX5_typeMore 2 = .ok (.if_icmp .lt 19, 3) := by decide +kernel
theorem dX5_typeMore_5 : decode cX5_typeMore 5 = .ok (.iload_n 1, 1) := by decide +kernel
theorem dX5_typeMore_6 : decode cX5_typeMore 6 = .ok (.bipush 8, 2) := by decide +kernel
theorem dX5_typeMore_8 : decode cX5_typeMore 8 = .ok (.if_icmp .gt 13, 3) := by decide +kernel
theorem dX5_typeMore_11 : decode cX5_typeMore 11 = .ok (.iload_n 2, 1) := by decide +kernel
theorem dX5_typeMore_12 : decode cX5_typeMore 12 = .ok (.ifCond .lt 9, 3) := by decide +kernel
theorem dX5_typeMore_15 : decode cX5_typeMore 15 = .ok (.iload_n 2, 1) := by decide +kernel
theorem dX5_typeMore_16 : decode cX5_typeMore 16 = .ok (.ldc 73, 2) := by decide +kernel
theorem dX5_typeMore_18 : decode cX5_typeMore 18 = .ok (.if_icmp .le 13, 3) := by decide +kernel
theorem dX5_typeMore_21 : decode cX5_typeMore 21 = .ok (.new 53, 3) := by decide +kernel
theorem dX5_typeMore_24 : decode cX5_typeMore 24 = .ok (.dup, 1) := by decide +kernel
theorem dX5_typeMore_25 : decode cX5_typeMore 25 = .ok (.ldc 74, 2) := by decide +kernel
theorem dX5_typeMore_27 : decode cX5_typeMore 27 = .ok (.invokespecial 57, 3) := by decide +kernel
theorem dX5_typeMore_30 : decode cX5_typeMore 30 = .ok (.athrow, 1) := by decide +kernel
theorem dX5_typeMore_31 : decode cX5_typeMore 31 = .ok (.aload_n 0, 1) := by decide +kernel
theorem dX5_typeMore_32 : decode cX5_typeMore 32 = .ok (.getfield 14, 3) := by decide +kernel
theorem dX5_typeMore_35 : decode cX5_typeMore 35 = .ok (.invokevirtual 60, 3) := by decide +kernel
theorem dX5_typeMore_38 : decode cX5_typeMore 38 = .ok (.iload_n 1, 1) := by decide +kernel
theorem dX5_typeMore_39 : decode cX5_typeMore 39 = .ok (.iadd, 1) := by decide +kernel
theorem dX5_typeMore_40 : decode cX5_typeMore 40 = .ok (.bipush 24, 2) := by decide +kernel
theorem dX5_typeMore_42 : decode cX5_typeMore 42 = .ok (.if_icmp .le 13, 3) := by decide +kernel
theorem dX5_typeMore_45 : decode cX5_typeMore 45 = .ok (.new 64, 3) := by decide +kernel
theorem dX5_typeMore_48 : decode cX5_typeMore 48 = .ok (.dup, 1) := by decide +kernel
theorem dX5_typeMore_49 : decode cX5_typeMore 49 = .ok (.ldc 76, 2) := by decide +kernel
theorem dX5_typeMore_51 : decode cX5_typeMore 51 = .ok (.invokespecial 68, 3) := by decide +kernel
theorem dX5_typeMore_54 : decode cX5_typeMore 54 = .ok (.athrow, 1) := by decide +kernel
theorem dX5_typeMore_55 : decode cX5_typeMore 55 = .ok (.iload_n 2, 1) := by decide +kernel
theorem dX5_typeMore_56 : decode cX5_typeMore 56 = .ok (.istore_n 3, 1) := by decide +kernel
theorem dX5_typeMore_57 : decode cX5_typeMore 57 = .ok (.iconst 0, 1) := by decide +kernel
theorem dX5_typeMore_58 : decode cX5_typeMore 58 = .ok (.istore 4, 2) := by decide +kernel
theorem dX5_typeMore_60 : decode cX5_typeMore 60 = .ok (.iload 4, 2) := by decide +kernel
theorem dX5_typeMore_62 : decode cX5_typeMore 62 = .ok (.iload_n 1, 1) := by decide +kernel
theorem dX5_typeMore_63 : decode cX5_typeMore 63 = .ok (.if_icmp .ge 28, 3) := by decide +kernel
theorem dX5_typeMore_66 : decode cX5_typeMore 66 = .ok (.aload_n 0, 1) := by decide +kernel
theorem dX5_typeMore_67 : decode cX5_typeMore 67 = .ok (.getfield 14, 3) := by decide +kernel
theorem dX5_typeMore_70 : decode cX5_typeMore 70 = .ok (.iload_n 3, 1) := by decide +kernel
theorem dX5_typeMore_71 : decode cX5_typeMore 71 = .ok (.bipush 6, 2) := by decide +kernel
theorem dX5_typeMore_73 : decode cX5_typeMore 73 = .ok (.irem, 1) := by decide +kernel
theorem dX5_typeMore_74 : decode cX5_typeMore 74 = .ok (.invokestatic 78, 3) := by decide +kernel
theorem dX5_typeMore_77 : decode cX5_typeMore 77 = .ok (.invokevirtual 69, 3) := by decide +kernel
theorem dX5_typeMore_80 : decode cX5_typeMore 80 = .ok (.iload_n 3, 1) := by decide +kernel
theorem dX5_typeMore_81 : decode cX5_typeMore 81 = .ok (.bipush 6, 2) := by decide +kernel
theorem dX5_typeMore_83 : decode cX5_typeMore 83 = .ok (.idiv, 1) := by decide +kernel
theorem dX5_typeMore_84 : decode cX5_typeMore 84 = .ok (.istore_n 3, 1) := by decide +kernel
theorem dX5_typeMore_85 : decode cX5_typeMore 85 = .ok (.iinc 4 1, 3) := by decide +kernel
theorem dX5_typeMore_88 : decode cX5_typeMore 88 = .ok (.goto (-28), 3) := by decide +kernel
theorem dX5_typeMore_91 : decode cX5_typeMore 91 = .ok (.aload_n 0, 1) := by decide +kernel
theorem dX5_typeMore_92 : decode cX5_typeMore 92 = .ok (.getfield 14, 3) := by decide +kernel
theorem dX5_typeMore_95 : decode cX5_typeMore 95 = .ok (.invokevirtual 60, 3) := by decide +kernel
theorem dX5_typeMore_98 : decode cX5_typeMore 98 = .ok (.ireturn, 1) := by decide +kernel
set_option maxRecDepth 20000 in
theorem ggX5_typeAt_X2_size : GoodIn wsX5_typeAt wsX2_size := goodIn_r _ [12, 13, 29, 30] (by decide +kernel) (by decide +kernel)
set_option maxRecDepth 20000 in
theorem gX5_typeAt_X2_size : GoodIn wsX5_typeAt (wsV RX5 60 RX2 yX2_size wsX2_size) := goodIn_app (goodIn_of _ (by decide +kernel)) ggX5_typeAt_X2_size
set_option maxRecDepth 20000 in
theorem ggX5_typeAt_X5_isSign : GoodIn wsX5_typeAt wsX5_isSign := goodIn_r _ [17] (by decide +kernel) (by decide +kernel)
set_option maxRecDepth 20000 in
theorem gX5_typeAt_X5_isSign : GoodIn wsX5_typeAt (va_wsS RX5 49 yX5_isSign wsX5_isSign) := goodIn_app (goodIn_of _ (by decide +kernel)) ggX5_typeAt_X5_isSign
set_option maxRecDepth 20000 in
theorem ggX5_typeAt_X2_insert : GoodIn wsX5_typeAt wsX2_insert := goodIn_r _ [21, 13, 22, 29, 30] (by decide +kernel) (by decide +kernel)
set_option maxRecDepth 20000 in
theorem gX5_typeAt_X2_insert : GoodIn wsX5_typeAt (wsV RX5 87 RX2 yX2_insert wsX2_insert) := goodIn_app (goodIn_of _ (by decide +kernel)) ggX5_typeAt_X2_insert
theorem dX5_typeAt_0 : decode cX5_typeAt 0 = .ok (.iload_n 1, 1) := by decide +kernel
theorem dX5_typeAt_1 : decode cX5_typeAt 1 = .ok (.ifCond .lt 14, 3) := by decide +kernel
theorem dX5_typeAt_4 : decode cX5_typeAt 4 = .ok (.iload_n 1, 1) := by decide +kernel
theorem dX5_typeAt_5 : decode cX5_typeAt 5 = .ok (.aload_n 0, 1) := by decide +kernel
theorem dX5_typeAt_6 : decode cX5_typeAt 6 = .ok (.getfield 14, 3) := by decide +kernel
theorem dX5_typeAt_9 : decode cX5_typeAt 9 = .ok (.invokevirtual 60, 3) := by decide +kernel
theorem dX5_typeAt_12 : decode cX5_typeAt 12 = .ok (.if_icmp .le 13, 3) := by decide +kernel
theorem dX5_typeAt_15 : decode cX5_typeAt 15 = .ok (.new 82, 3) := by decide +kernel
theorem dX5_typeAt_18 : decode cX5_typeAt 18 = .ok (.dup, 1) := by decide +kernel
theorem dX5_typeAt_19 : decode cX5_typeAt 19 = .ok (.ldc 84, 2) := by decide +kernel
theorem dX5_typeAt_21 : decode cX5_typeAt 21 = .ok (.invokespecial 86, 3) := by decide +kernel
theorem dX5_typeAt_24 : decode cX5_typeAt 24 = .ok (.athrow, 1) := by decide +kernel
theorem dX5_typeAt_25 : decode cX5_typeAt 25 = .ok (.iload_n 2, 1) := by decide +kernel
theorem dX5_typeAt_26 : decode cX5_typeAt 26 = .ok (.invokestatic 49, 3) := by decide +kernel
theorem dX5_typeAt_29 : decode cX5_typeAt 29 = .ok (.ifCond .ne 13, 3) := by decide +kernel
theorem dX5_typeAt_32 : decode cX5_typeAt 32 = .ok (.new 53, 3) := by decide +kernel
theorem dX5_typeAt_35 : decode cX5_typeAt 35 = .ok (.dup, 1) := by decide +kernel
theorem dX5_typeAt_36 : decode cX5_typeAt 36 = .ok (.ldc 55, 2) := by decide +kernel
theorem dX5_typeAt_38 : decode cX5_typeAt 38 = .ok (.invokespecial 57, 3) := by decide +kernel
theorem dX5_typeAt_41 : decode cX5_typeAt 41 = .ok (.athrow, 1) := by decide +kernel
theorem dX5_typeAt_42 : decode cX5_typeAt 42 = .ok (.aload_n 0, 1) := by decide +kernel
theorem dX5_typeAt_43 : decode cX5_typeAt 43 = .ok (.getfield 14, 3) := by decide +kernel
theorem dX5_typeAt_46 : decode cX5_typeAt 46 = .ok (.invokevirtual 60, 3) := by decide +kernel
theorem dX5_typeAt_49 : decode cX5_typeAt 49 = .ok (.bipush 24, 2) := by decide +kernel
theorem dX5_typeAt_51 : decode cX5_typeAt 51 = .ok (.if_icmp .lt 13, 3) := by decide +kernel
theorem dX5_typeAt_54 : decode cX5_typeAt 54 = .ok (.new 64, 3) := by decide +kernel
theorem dX5_typeAt_57 : decode cX5_typeAt 57 = .ok (.dup, 1) := by decide +kernel
theorem dX5_typeAt_58 : decode cX5_typeAt 58 = .ok (.ldc 66, 2) := by decide +kernel
theorem dX5_typeAt_60 : decode cX5_typeAt 60 = .ok (.invokespecial 68, 3) := by decide +kernel
theorem dX5_typeAt_63 : decode cX5_typeAt 63 = .ok (.athrow, 1) := by decide +kernel
theorem dX5_typeAt_64 : decode cX5_typeAt 64 = .ok (.aload_n 0, 1) := by decide +kernel
theorem dX5_typeAt_65 : decode cX5_typeAt 65 = .ok (.getfield 14, 3) := by decide +kernel
theorem dX5_typeAt_68 : decode cX5_typeAt 68 = .ok (.iload_n 1, 1) := by decide +kernel
theorem dX5_typeAt_69 : decode cX5_typeAt 69 = .ok (.iload_n 2, 1) := by decide +kernel
theorem dX5_typeAt_70 : decode cX5_typeAt 70 = .ok (.invokevirtual 87, 3) := by decide +kernel
theorem dX5_typeAt_73 : decode cX5_typeAt 73 = .ok (.aload_n 0, 1) := by decide +kernel
theorem dX5_typeAt_74 : decode cX5_typeAt 74 = .ok (.getfield 14, 3) := by decide +kernel
theorem dX5_typeAt_77 : decode cX5_typeAt 77 = .ok (.invokevirtual 60, 3) := by decide +kernel
theorem dX5_typeAt_80 : decode cX5_typeAt 80 = .ok (.ireturn, 1) := by decide +kernel
set_option maxRecDepth 20000 in
theorem ggX5_drop_X2_size : GoodIn wsX5_drop wsX2_size := goodIn_r _ [8, 9, 21, 22] (by decide +kernel) (by decide +kernel)
set_option maxRecDepth 20000 in
theorem gX5_drop_X2_size : GoodIn wsX5_drop (wsV RX5 60 RX2 yX2_size wsX2_size) := goodIn_app (goodIn_of _ (by decide +kernel)) ggX5_drop_X2_size
set_option maxRecDepth 20000 in
theorem ggX5_drop_X2_removePart : GoodIn wsX5_drop wsX2_removePart := goodIn_r _ [13, 9, 14, 21, 22] (by decide +kernel) (by decide +kernel)
set_option maxRecDepth 20000 in
theorem gX5_drop_X2_removePart : GoodIn wsX5_drop (wsV RX5 96 RX2 yX2_removePart wsX2_removePart) := goodIn_app (goodIn_of _ (by decide +kernel)) ggX5_drop_X2_removePart
theorem dX5_drop_0 : decode cX5_drop 0 = .ok (.aload_n 0, 1) := by decide +kernel
theorem dX5_drop_1 : decode cX5_drop 1 = .ok (.getfield 14, 3) := by decide +kernel
theorem dX5_drop_4 : decode cX5_drop 4 = .ok (.invokevirtual 60, 3) := by decide +kernel
theorem dX5_drop_7 : decode cX5_drop 7 = .ok (.ifCond .ne 13, 3) := by decide +kernel
theorem dX5_drop_10 : decode cX5_drop 10 = .ok (.new 91, 3) := by decide +kernel
theorem dX5_drop_13 : decode cX5_drop 13 = .ok (.dup, 1) := by decide +kernel
theorem dX5_drop_14 : decode cX5_drop 14 = .ok (.ldc 93, 2) := by decide +kernel
theorem dX5_drop_16 : decode cX5_drop 16 = .ok (.invokespecial 95, 3) := by decide +kernel
theorem dX5_drop_19 : decode cX5_drop 19 = .ok (.athrow, 1) := by decide +kernel
theorem dX5_drop_20 : decode cX5_drop 20 = .ok (.aload_n 0, 1) := by decide +kernel
theorem dX5_drop_21 : decode cX5_drop 21 = .ok (.getfield 14, 3) := by decide +kernel
theorem dX5_drop_24 : decode cX5_drop 24 = .ok (.aload_n 0, 1) := by decide +kernel
theorem dX5_drop_25 : decode cX5_drop 25 = .ok (.getfield 14, 3) := by decide +kernel
theorem dX5_drop_28 : decode cX5_drop 28 = .ok (.invokevirtual 60, 3) := by decide +kernel
theorem dX5_drop_31 : decode cX5_drop 31 = .ok (.iconst 1, 1) := by decide +kernel
theorem dX5_drop_32 : decode cX5_drop 32 = .ok (.isub, 1) := by decide +kernel
theorem dX5_drop_33 : decode cX5_drop 33 = .ok (.aload_n 0, 1) := by decide +kernel
theorem dX5_drop_34 : decode cX5_drop 34 = .ok (.getfield 14, 3) := by decide +kernel
theorem dX5_drop_37 : decode cX5_drop 37 = .ok (.invokevirtual 60, 3) := by decide +kernel
theorem dX5_drop_40 : decode cX5_drop 40 = .ok (.invokevirtual 96, 3) := by decide +kernel
theorem dX5_drop_43 : decode cX5_drop 43 = .ok (.aload_n 0, 1) := by decide +kernel
theorem dX5_drop_44 : decode cX5_drop 44 = .ok (.getfield 14, 3) := by decide +kernel
theorem dX5_drop_47 : decode cX5_drop 47 = .ok (.invokevirtual 60, 3) := by decide +kernel
theorem dX5_drop_50 : decode cX5_drop 50 = .ok (.ireturn, 1) := by decide +kernel
set_option maxRecDepth 20000 in
theorem ggX5_clip_X2_size : GoodIn wsX5_clip wsX2_size := goodIn_r _ [8, 9, 21, 22] (by decide +kernel) (by decide +kernel)
set_option maxRecDepth 20000 in
theorem gX5_clip_X2_size : GoodIn wsX5_clip (wsV RX5 60 RX2 yX2_size wsX2_size) := goodIn_app (goodIn_of _ (by decide +kernel)) ggX5_clip_X2_size
set_option maxRecDepth 20000 in
theorem ggX5_clip_X2_removePart : GoodIn wsX5_clip wsX2_removePart := goodIn_r _ [13, 9, 14, 21, 22] (by decide +kernel) (by decide +kernel)
set_option maxRecDepth 20000 in
theorem gX5_clip_X2_removePart : GoodIn wsX5_clip (wsV RX5 96 RX2 yX2_removePart wsX2_removePart) := goodIn_app (goodIn_of _ (by decide +kernel)) ggX5_clip_X2_removePart
theorem dX5_clip_0 : decode cX5_clip 0 = .ok (.iload_n 1, 1) := by decide +kernel
theorem dX5_clip_1 : decode cX5_clip 1 = .ok (.ifCond .lt 19, 3) := by decide +kernel
theorem dX5_clip_4 : decode cX5_clip 4 = .ok (.iload_n 2, 1) := by decide +kernel
theorem dX5_clip_5 : decode cX5_clip 5 = .ok (.iload_n 1, 1) := by decide +kernel
theorem dX5_clip_6 : decode cX5_clip 6 = .ok (.if_icmp .lt 14, 3) := by decide +kernel
theorem dX5_clip_9 : decode cX5_clip 9 = .ok (.iload_n 2, 1) := by decide +kernel
theorem dX5_clip_10 : decode cX5_clip 10 = .ok (.aload_n 0, 1) := by decide +kernel
theorem dX5_clip_11 : decode cX5_clip 11 = .ok (.getfield 14, 3) := by decide +kernel
theorem dX5_clip_14 : decode cX5_clip 14 = .ok (.invokevirtual 60, 3) := by decide +kernel
theorem dX5_clip_17 : decode cX5_clip 17 = .ok (.if_icmp .le 13, 3) := by decide +kernel
theorem dX5_clip_20 : decode cX5_clip 20 = .ok (.new 82, 3) := by decide +kernel
theorem dX5_clip_23 : decode cX5_clip 23 = .ok (.dup, 1) := by decide +kernel
theorem dX5_clip_24 : decode cX5_clip 24 = .ok (.ldc 100, 2) := by decide +kernel
theorem dX5_clip_26 : decode cX5_clip 26 = .ok (.invokespecial 86, 3) := by decide +kernel
theorem dX5_clip_29 : decode cX5_clip 29 = .ok (.athrow, 1) := by decide +kernel
theorem dX5_clip_30 : decode cX5_clip 30 = .ok (.aload_n 0, 1) := by decide +kernel
theorem dX5_clip_31 : decode cX5_clip 31 = .ok (.getfield 14, 3) := by decide +kernel
theorem dX5_clip_34 : decode cX5_clip 34 = .ok (.iload_n 1, 1) := by decide +kernel
theorem dX5_clip_35 : decode cX5_clip 35 = .ok (.iload_n 2, 1) := by decide +kernel
theorem dX5_clip_36 : decode cX5_clip 36 = .ok (.invokevirtual 96, 3) := by decide +kernel
theorem dX5_clip_39 : decode cX5_clip 39 = .ok (.aload_n 0, 1) := by decide +kernel
theorem dX5_clip_40 : decode cX5_clip 40 = .ok (.getfield 14, 3) := by decide +kernel
theorem dX5_clip_43 : decode cX5_clip 43 = .ok (.invokevirtual 60, 3) := by decide +kernel
theorem dX5_clip_46 : decode cX5_clip 46 = .ok (.ireturn, 1) := by decide +kernel
set_option maxRecDepth 20000 in
theorem ggX5_wipe_X2_size : GoodIn wsX5_wipe wsX2_size := goodIn_r _ [6, 7, 18, 19] (by decide +kernel) (by decide +kernel)
set_option maxRecDepth 20000 in
theorem gX5_wipe_X2_size : GoodIn wsX5_wipe (wsV RX5 60 RX2 yX2_size wsX2_size) := goodIn_app (goodIn_of _ (by decide +kernel)) ggX5_wipe_X2_size
set_option maxRecDepth 20000 in
theorem ggX5_wipe_X2_clear : GoodIn wsX5_wipe wsX2_clear := goodIn_r _ [11, 7, 18, 19] (by decide +kernel) (by decide +kernel)
set_option maxRecDepth 20000 in
theorem gX5_wipe_X2_clear : GoodIn wsX5_wipe (wsV RX5 102 RX2 yX2_clear wsX2_clear) := goodIn_app (goodIn_of _ (by decide +kernel)) ggX5_wipe_X2_clear
theorem dX5_wipe_0 : decode cX5_wipe 0 = .ok (.aload_n 0, 1) := by decide +kernel
theorem dX5_wipe_1 : decode cX5_wipe 1 = .ok (.getfield 14, 3) := by decide +kernel
theorem dX5_wipe_4 : decode cX5_wipe 4 = .ok (.invokevirtual 60, 3) := by decide +kernel
theorem dX5_wipe_7 : decode cX5_wipe 7 = .ok (.istore_n 1, 1) := by decide +kernel
theorem dX5_wipe_8 : decode cX5_wipe 8 = .ok (.aload_n 0, 1) := by decide +kernel
theorem dX5_wipe_9 : decode cX5_wipe 9 = .ok (.getfield 14, 3) := by decide +kernel
theorem dX5_wipe_12 : decode cX5_wipe 12 = .ok (.invokevirtual 102, 3) := by decide +kernel
theorem dX5_wipe_15 : decode cX5_wipe 15 = .ok (.iload_n 1, 1) := by decide +kernel
theorem dX5_wipe_16 : decode cX5_wipe 16 = .ok (.ireturn, 1) := by decide +kernel
set_option maxRecDepth 20000 in
theorem ggX5_turn_X2_reverse : GoodIn wsX5_turn wsX2_reverse := goodIn_r _ [6, 7, 8, 15, 16] (by decide +kernel) (by decide +kernel)
set_option maxRecDepth 20000 in
theorem gX5_turn_X2_reverse : GoodIn wsX5_turn (wsV RX5 105 RX2 yX2_reverse wsX2_reverse) := goodIn_app (goodIn_of _ (by decide +kernel)) ggX5_turn_X2_reverse
theorem dX5_turn_0 : decode cX5_turn 0 = .ok (.aload_n 0, 1) := by decide +kernel
theorem dX5_turn_1 : decode cX5_turn 1 = .ok (.getfield 14, 3) := by decide +kernel
theorem dX5_turn_4 : decode cX5_turn 4 = .ok (.invokevirtual 105, 3) := by decide +kernel
theorem dX5_turn_7 : decode cX5_turn 7 = .ok (.ireturn, 1) := by decide +kernel
set_option maxRecDepth 20000 in
theorem ggX5_signAt_X2_size : GoodIn wsX5_signAt wsX2_size := goodIn_r _ [8, 9, 21, 22] (by decide +kernel) (by decide +kernel)
set_option maxRecDepth 20000 in
theorem gX5_signAt_X2_size : GoodIn wsX5_signAt (wsV RX5 60 RX2 yX2_size wsX2_size) := goodIn_app (goodIn_of _ (by decide +kernel)) ggX5_signAt_X2_size
set_option maxRecDepth 20000 in
theorem ggX5_signAt_X2_at : GoodIn wsX5_signAt wsX2_at := goodIn_r _ [13, 9, 14, 21, 22] (by decide +kernel) (by decide +kernel)
set_option maxRecDepth 20000 in
theorem gX5_signAt_X2_at : GoodIn wsX5_signAt (wsV RX5 109 RX2 yX2_at wsX2_at) := goodIn_app (goodIn_of _ (by decide +kernel)) ggX5_signAt_X2_at
theorem dX5_signAt_0 : decode cX5_signAt 0 = .ok (.iload_n 1, 1) := by decide +kernel
theorem dX5_signAt_1 : decode cX5_signAt 1 = .ok (.ifCond .lt 14, 3) := by decide +kernel
theorem dX5_signAt_4 : decode cX5_signAt 4 = .ok (.iload_n 1, 1) := by decide +kernel
theorem dX5_signAt_5 : decode cX5_signAt 5 = .ok (.aload_n 0, 1) := by decide +kernel
theorem dX5_signAt_6 : decode cX5_signAt 6 = .ok (.getfield 14, 3) := by decide +kernel
theorem dX5_signAt_9 : decode cX5_signAt 9 = .ok (.invokevirtual 60, 3) := by decide +kernel
theorem dX5_signAt_12 : decode cX5_signAt 12 = .ok (.if_icmp .lt 13, 3) := by decide +kernel
theorem dX5_signAt_15 : decode cX5_signAt 15 = .ok (.new 82, 3) := by decide +kernel
theorem dX5_signAt_18 : decode cX5_signAt 18 = .ok (.dup, 1) := by decide +kernel
theorem dX5_signAt_19 : decode cX5_signAt 19 = .ok (.ldc 84, 2) := by decide +kernel
theorem dX5_signAt_21 : decode cX5_signAt 21 = .ok (.invokespecial 86, 3) := by decide +kernel
theorem dX5_signAt_24 : decode cX5_signAt 24 = .ok (.athrow, 1) := by decide +kernel
theorem dX5_signAt_25 : decode cX5_signAt 25 = .ok (.aload_n 0, 1) := by decide +kernel
theorem dX5_signAt_26 : decode cX5_signAt 26 = .ok (.getfield 14, 3) := by decide +kernel
theorem dX5_signAt_29 : decode cX5_signAt 29 = .ok (.iload_n 1, 1) := by decide +kernel
theorem dX5_signAt_30 : decode cX5_signAt 30 = .ok (.invokevirtual 109, 3) := by decide +kernel
theorem dX5_signAt_33 : decode cX5_signAt 33 = .ok (.ireturn, 1) := by decide +kernel
set_option maxRecDepth 20000 in
theorem ggX5_put_X2_size : GoodIn wsX5_put wsX2_size := goodIn_r _ [13, 14, 83, 84] (by decide +kernel) (by decide +kernel)
set_option maxRecDepth 20000 in
theorem gX5_put_X2_size : GoodIn wsX5_put (wsV RX5 60 RX2 yX2_size wsX2_size) := goodIn_app (goodIn_of _ (by decide +kernel)) ggX5_put_X2_size
set_option maxRecDepth 20000 in
theorem ggX5_put_X4_rankOf : GoodIn wsX5_put wsX4_rankOf := goodIn_r _ [19, 20, 21, 22, 23, 18, 24, 25, 26, 27, 28, 29, 30, 31, 32, 33, 12, 34, 14, 35, 36, 37, 38, 39, 85, 86, 87, 88, 83, 84] (by decide +kernel) (by decide +kernel)
set_option maxRecDepth 20000 in
theorem gX5_put_X4_rankOf : GoodIn wsX5_put (wsV RX5 119 RX4 yX4_rankOf wsX4_rankOf) := goodIn_app (goodIn_of _ (by decide +kernel)) ggX5_put_X4_rankOf
set_option maxRecDepth 20000 in
theorem ggX5_put_X4_size : GoodIn wsX5_put wsX4_size := goodIn_r _ [43, 20, 85, 86, 87, 88] (by decide +kernel) (by decide +kernel)
set_option maxRecDepth 20000 in
theorem gX5_put_X4_size : GoodIn wsX5_put (wsV RX5 123 RX4 yX4_size wsX4_size) := goodIn_app (goodIn_of _ (by decide +kernel)) ggX5_put_X4_size
set_option maxRecDepth 20000 in
theorem ggX5_put_X4_insert : GoodIn wsX5_put wsX4_insert := goodIn_r _ [47, 20, 29, 48, 21, 22, 23, 18, 24, 25, 26, 27, 28, 30, 31, 32, 33, 12, 34, 14, 35, 36, 37, 38, 39, 49, 50, 51, 52, 53, 54, 55, 56, 57, 58, 59, 60, 61, 62, 63, 64, 65, 66, 67, 68, 85, 86, 87, 88, 83, 84] (by decide +kernel) (by decide +kernel)
set_option maxRecDepth 20000 in
theorem gX5_put_X4_insert : GoodIn wsX5_put (wsV RX5 126 RX4 yX4_insert wsX4_insert) := goodIn_app (goodIn_of _ (by decide +kernel)) ggX5_put_X4_insert
set_option maxRecDepth 20000 in
theorem ggX5_put_X4_numberAt : GoodIn wsX5_put wsX4_numberAt := goodIn_r _ [72, 20, 48, 85, 86, 87, 88] (by decide +kernel) (by decide +kernel)
set_option maxRecDepth 20000 in
theorem gX5_put_X4_numberAt : GoodIn wsX5_put (wsV RX5 129 RX4 yX4_numberAt wsX4_numberAt) := goodIn_app (goodIn_of _ (by decide +kernel)) ggX5_put_X4_numberAt
set_option maxRecDepth 20000 in
theorem ggX5_put_X4_setNumber : GoodIn wsX5_put wsX4_setNumber := goodIn_r _ [76, 20, 48, 85, 86, 87, 88] (by decide +kernel) (by decide +kernel)
set_option maxRecDepth 20000 in
theorem gX5_put_X4_setNumber : GoodIn wsX5_put (wsV RX5 133 RX4 yX4_setNumber wsX4_setNumber) := goodIn_app (goodIn_of _ (by decide +kernel)) ggX5_put_X4_setNumber
theorem dX5_put_0 : decode cX5_put 0 = .ok (.iload_n 1, 1) := by decide +kernel
theorem dX5_put_1 : decode cX5_put 1 = .ok (.ifCond .lt 10, 3) := by decide +kernel
theorem dX5_put_4 : decode cX5_put 4 = .ok (.iload_n 1, 1) := by decide +kernel
theorem dX5_put_5 : decode cX5_put 5 = .ok (.sipush 999, 3) := by decide +kernel
theorem dX5_put_8 : decode cX5_put 8 = .ok (.if_icmp .le 13, 3) := by decide +kernel
theorem dX5_put_11 : decode cX5_put 11 = .ok (.new 53, 3) := by decide +kernel
theorem dX5_put_14 : decode cX5_put 14 = .ok (.dup, 1) := by decide +kernel
theorem dX5_put_15 : decode cX5_put 15 = .ok (.ldc 112, 2) := by decide +kernel
theorem dX5_put_17 : decode cX5_put 17 = .ok (.invokespecial 57, 3) := by decide +kernel
theorem dX5_put_20 : decode cX5_put 20 = .ok (.athrow, 1) := by decide +kernel
theorem dX5_put_21 : decode cX5_put 21 = .ok (.aload_n 0, 1) := by decide +kernel
theorem dX5_put_22 : decode cX5_put 22 = .ok (.getfield 14, 3) := by decide +kernel
theorem dX5_put_25 : decode cX5_put 25 = .ok (.invokevirtual 60, 3) := by decide +kernel
theorem dX5_put_28 : decode cX5_put 28 = .ok (.ifCond .eq 15, 3) := by decide +kernel
theorem dX5_put_31 : decode cX5_put 31 = .ok (.aload_n 0, 1) := by decide +kernel
theorem dX5_put_32 : decode cX5_put 32 = .ok (.getfield 14, 3) := by decide +kernel
theorem dX5_put_35 : decode cX5_put 35 = .ok (.invokevirtual 60, 3) := by decide +kernel
theorem dX5_put_38 : decode cX5_put 38 = .ok (.bipush 10, 2) := by decide +kernel
theorem dX5_put_40 : decode cX5_put 40 = .ok (.if_icmp .le 13, 3) := by decide +kernel
theorem dX5_put_43 : decode cX5_put 43 = .ok (.new 114, 3) := by decide +kernel
theorem dX5_put_46 : decode cX5_put 46 = .ok (.dup, 1) := by decide +kernel
theorem dX5_put_47 : decode cX5_put 47 = .ok (.ldc 116, 2) := by decide +kernel
theorem dX5_put_49 : decode cX5_put 49 = .ok (.invokespecial 118, 3) := by decide +kernel
theorem dX5_put_52 : decode cX5_put 52 = .ok (.athrow, 1) := by decide +kernel
theorem dX5_put_53 : decode cX5_put 53 = .ok (.aload_n 0, 1) := by decide +kernel
theorem dX5_put_54 : decode cX5_put 54 = .ok (.getfield 24, 3) := by decide +kernel
theorem dX5_put_57 : decode cX5_put 57 = .ok (.aload_n 0, 1) := by decide +kernel
theorem dX5_put_58 : decode cX5_put 58 = .ok (.getfield 14, 3) := by decide +kernel
theorem dX5_put_61 : decode cX5_put 61 = .ok (.invokevirtual 119, 3) := by decide +kernel
theorem dX5_put_64 : decode cX5_put 64 = .ok (.istore_n 2, 1) := by decide +kernel
theorem dX5_put_65 : decode cX5_put 65 = .ok (.iload_n 2, 1) := by decide +kernel
theorem dX5_put_66 : decode cX5_put 66 = .ok (.iconst (-1), 1) := by decide +kernel
theorem dX5_put_67 : decode cX5_put 67 = .ok (.if_icmp .ne 25, 3) := by decide +kernel
theorem dX5_put_70 : decode cX5_put 70 = .ok (.aload_n 0, 1) := by decide +kernel
theorem dX5_put_71 : decode cX5_put 71 = .ok (.getfield 24, 3) := by decide +kernel
theorem dX5_put_74 : decode cX5_put 74 = .ok (.invokevirtual 123, 3) := by decide +kernel
theorem dX5_put_77 : decode cX5_put 77 = .ok (.bipush 24, 2) := by decide +kernel
theorem dX5_put_79 : decode cX5_put 79 = .ok (.if_icmp .lt 13, 3) := by decide +kernel
theorem dX5_put_82 : decode cX5_put 82 = .ok (.new 64, 3) := by decide +kernel
theorem dX5_put_85 : decode cX5_put 85 = .ok (.dup, 1) := by decide +kernel
theorem dX5_put_86 : decode cX5_put 86 = .ok (.ldc 124, 2) := by decide +kernel
theorem dX5_put_88 : decode cX5_put 88 = .ok (.invokespecial 68, 3) := by decide +kernel
theorem dX5_put_91 : decode cX5_put 91 = .ok (.athrow, 1) := by decide +kernel
theorem dX5_put_92 : decode cX5_put 92 = .ok (.iload_n 2, 1) := by decide +kernel
theorem dX5_put_93 : decode cX5_put 93 = .ok (.iconst (-1), 1) := by decide +kernel
theorem dX5_put_94 : decode cX5_put 94 = .ok (.if_icmp .ne 17, 3) := by decide +kernel
theorem dX5_put_97 : decode cX5_put 97 = .ok (.aload_n 0, 1) := by decide +kernel
theorem dX5_put_98 : decode cX5_put 98 = .ok (.getfield 24, 3) := by decide +kernel
theorem dX5_put_101 : decode cX5_put 101 = .ok (.aload_n 0, 1) := by decide +kernel
theorem dX5_put_102 : decode cX5_put 102 = .ok (.getfield 14, 3) := by decide +kernel
theorem dX5_put_105 : decode cX5_put 105 = .ok (.iload_n 1, 1) := by decide +kernel
theorem dX5_put_106 : decode cX5_put 106 = .ok (.invokevirtual 126, 3) := by decide +kernel
theorem dX5_put_109 : decode cX5_put 109 = .ok (.iconst (-1), 1) := by decide +kernel
theorem dX5_put_110 : decode cX5_put 110 = .ok (.ireturn, 1) := by decide +kernel
theorem dX5_put_111 : decode cX5_put 111 = .ok (.aload_n 0, 1) := by decide +kernel
theorem dX5_put_112 : decode cX5_put 112 = .ok (.getfield 24, 3) := by decide +kernel
theorem dX5_put_115 : decode cX5_put 115 = .ok (.iload_n 2, 1) := by decide +kernel
theorem dX5_put_116 : decode cX5_put 116 = .ok (.invokevirtual 129, 3) := by decide +kernel
theorem dX5_put_119 : decode cX5_put 119 = .ok (.istore_n 3, 1) := by decide +kernel
theorem dX5_put_120 : decode cX5_put 120 = .ok (.aload_n 0, 1) := by decide +kernel
theorem dX5_put_121 : decode cX5_put 121 = .ok (.getfield 24, 3) := by decide +kernel
theorem dX5_put_124 : decode cX5_put 124 = .ok (.iload_n 2, 1) := by decide +kernel
theorem dX5_put_125 : decode cX5_put 125 = .ok (.iload_n 1, 1) := by decide +kernel
theorem dX5_put_126 : decode cX5_put 126 = .ok (.invokevirtual 133, 3) := by decide +kernel
theorem dX5_put_129 : decode cX5_put 129 = .ok (.iload_n 3, 1) := by decide +kernel
theorem dX5_put_130 : decode cX5_put 130 = .ok (.ireturn, 1) := by decide +kernel
set_option maxRecDepth 20000 in
theorem ggX5_take_X4_rankOf : GoodIn wsX5_take wsX4_rankOf := goodIn_r _ [9, 10, 11, 12, 13, 8, 14, 15, 16, 17, 18, 19, 20, 21, 22, 23, 24, 25, 26, 27, 28, 29, 30, 31, 47, 48, 49, 50, 51, 52] (by decide +kernel) (by decide +kernel)
set_option maxRecDepth 20000 in
theorem gX5_take_X4_rankOf : GoodIn wsX5_take (wsV RX5 119 RX4 yX4_rankOf wsX4_rankOf) := goodIn_app (goodIn_of _ (by decide +kernel)) ggX5_take_X4_rankOf
set_option maxRecDepth 20000 in
theorem ggX5_take_X4_numberAt : GoodIn wsX5_take wsX4_numberAt := goodIn_r _ [35, 10, 36, 47, 48, 49, 50] (by decide +kernel) (by decide +kernel)
set_option maxRecDepth 20000 in
theorem gX5_take_X4_numberAt : GoodIn wsX5_take (wsV RX5 129 RX4 yX4_numberAt wsX4_numberAt) := goodIn_app (goodIn_of _ (by decide +kernel)) ggX5_take_X4_numberAt
set_option maxRecDepth 20000 in
theorem ggX5_take_X4_remove : GoodIn wsX5_take wsX4_remove := goodIn_r _ [40, 10, 19, 36, 47, 48, 49, 50] (by decide +kernel) (by decide +kernel)
set_option maxRecDepth 20000 in
theorem gX5_take_X4_remove : GoodIn wsX5_take (wsV RX5 138 RX4 yX4_remove wsX4_remove) := goodIn_app (goodIn_of _ (by decide +kernel)) ggX5_take_X4_remove
theorem dX5_take_0 : decode cX5_take 0 = .ok (.aload_n 0, 1) := by decide +kernel
theorem dX5_take_1 : decode cX5_take 1 = .ok (.getfield 24, 3) := by decide +kernel
theorem dX5_take_4 : decode cX5_take 4 = .ok (.aload_n 0, 1) := by decide +kernel
theorem dX5_take_5 : decode cX5_take 5 = .ok (.getfield 14, 3) := by decide +kernel
theorem dX5_take_8 : decode cX5_take 8 = .ok (.invokevirtual 119, 3) := by decide +kernel
theorem dX5_take_11 : decode cX5_take 11 = .ok (.istore_n 1, 1) := by decide +kernel
theorem dX5_take_12 : decode cX5_take 12 = .ok (.iload_n 1, 1) := by decide +kernel
theorem dX5_take_13 : decode cX5_take 13 = .ok (.iconst (-1), 1) := by decide +kernel
theorem dX5_take_14 : decode cX5_take 14 = .ok (.if_icmp .ne 13, 3) := by decide +kernel
theorem dX5_take_17 : decode cX5_take 17 = .ok (.new 91, 3) := by decide +kernel
theorem dX5_take_20 : decode cX5_take 20 = .ok (.dup, 1) := by decide +kernel
theorem dX5_take_21 : decode cX5_take 21 = .ok (.ldc 136, 2) := by decide +kernel
theorem dX5_take_23 : decode cX5_take 23 = .ok (.invokespecial 95, 3) := by decide +kernel
theorem dX5_take_26 : decode cX5_take 26 = .ok (.athrow, 1) := by decide +kernel
theorem dX5_take_27 : decode cX5_take 27 = .ok (.aload_n 0, 1) := by decide +kernel
theorem dX5_take_28 : decode cX5_take 28 = .ok (.getfield 24, 3) := by decide +kernel
theorem dX5_take_31 : decode cX5_take 31 = .ok (.iload_n 1, 1) := by decide +kernel
theorem dX5_take_32 : decode cX5_take 32 = .ok (.invokevirtual 129, 3) := by decide +kernel
theorem dX5_take_35 : decode cX5_take 35 = .ok (.istore_n 2, 1) := by decide +kernel
theorem dX5_take_36 : decode cX5_take 36 = .ok (.aload_n 0, 1) := by decide +kernel
theorem dX5_take_37 : decode cX5_take 37 = .ok (.getfield 24, 3) := by decide +kernel
theorem dX5_take_40 : decode cX5_take 40 = .ok (.iload_n 1, 1) := by decide +kernel
theorem dX5_take_41 : decode cX5_take 41 = .ok (.invokevirtual 138, 3) := by decide +kernel
theorem dX5_take_44 : decode cX5_take 44 = .ok (.iload_n 2, 1) := by decide +kernel
theorem dX5_take_45 : decode cX5_take 45 = .ok (.ireturn, 1) := by decide +kernel
set_option maxRecDepth 20000 in
theorem ggX5_number_X4_rankOf : GoodIn wsX5_number wsX4_rankOf := goodIn_r _ [9, 10, 11, 12, 13, 8, 14, 15, 16, 17, 18, 19, 20, 21, 22, 23, 24, 25, 26, 27, 28, 29, 30, 31, 43, 44, 45, 46, 47, 48] (by decide +kernel) (by decide +kernel)
set_option maxRecDepth 20000 in
theorem gX5_number_X4_rankOf : GoodIn wsX5_number (wsV RX5 119 RX4 yX4_rankOf wsX4_rankOf) := goodIn_app (goodIn_of _ (by decide +kernel)) ggX5_number_X4_rankOf
set_option maxRecDepth 20000 in
theorem ggX5_number_X4_numberAt : GoodIn wsX5_number wsX4_numberAt := goodIn_r _ [35, 10, 36, 43, 44, 45, 46] (by decide +kernel) (by decide +kernel)
set_option maxRecDepth 20000 in
theorem gX5_number_X4_numberAt : GoodIn wsX5_number (wsV RX5 129 RX4 yX4_numberAt wsX4_numberAt) := goodIn_app (goodIn_of _ (by decide +kernel)) ggX5_number_X4_numberAt
theorem dX5_number_0 : decode cX5_number 0 = .ok (.aload_n 0, 1) := by decide +kernel
theorem dX5_number_1 : decode cX5_number 1 = .ok (.getfield 24, 3) := by decide +kernel
theorem dX5_number_4 : decode cX5_number 4 = .ok (.aload_n 0, 1) := by decide +kernel
theorem dX5_number_5 : decode cX5_number 5 = .ok (.getfield 14, 3) := by decide +kernel
theorem dX5_number_8 : decode cX5_number 8 = .ok (.invokevirtual 119, 3) := by decide +kernel
theorem dX5_number_11 : decode cX5_number 11 = .ok (.istore_n 1, 1) := by decide +kernel
theorem dX5_number_12 : decode cX5_number 12 = .ok (.iload_n 1, 1) := by decide +kernel
theorem dX5_number_13 : decode cX5_number 13 = .ok (.iconst (-1), 1) := by decide +kernel
theorem dX5_number_14 : decode cX5_number 14 = .ok (.if_icmp .ne 13, 3) := by decide +kernel
theorem dX5_number_17 : decode cX5_number 17 = .ok (.new 91, 3) := by decide +kernel
theorem dX5_number_20 : decode cX5_number 20 = .ok (.dup, 1) := by decide +kernel
theorem dX5_number_21 : decode cX5_number 21 = .ok (.ldc 136, 2) := by decide +kernel
theorem dX5_number_23 : decode cX5_number 23 = .ok (.invokespecial 95, 3) := by decide +kernel
theorem dX5_number_26 : decode cX5_number 26 = .ok (.athrow, 1) := by decide +kernel
theorem dX5_number_27 : decode cX5_number 27 = .ok (.aload_n 0, 1) := by decide +kernel
theorem dX5_number_28 : decode cX5_number 28 = .ok (.getfield 24, 3) := by decide +kernel
theorem dX5_number_31 : decode cX5_number 31 = .ok (.iload_n 1, 1) := by decide +kernel
theorem dX5_number_32 : decode cX5_number 32 = .ok (.invokevirtual 129, 3) := by decide +kernel
theorem dX5_number_35 : decode cX5_number 35 = .ok (.ireturn, 1) := by decide +kernel
set_option maxRecDepth 20000 in
theorem ggX5_words_X4_size : GoodIn wsX5_words wsX4_size := goodIn_r _ [6, 7, 14, 15, 16, 17] (by decide +kernel) (by decide +kernel)
set_option maxRecDepth 20000 in
theorem gX5_words_X4_size : GoodIn wsX5_words (wsV RX5 123 RX4 yX4_size wsX4_size) := goodIn_app (goodIn_of _ (by decide +kernel)) ggX5_words_X4_size
theorem dX5_words_0 : decode cX5_words 0 = .ok (.aload_n 0, 1) := by decide +kernel
theorem dX5_words_1 : decode cX5_words 1 = .ok (.getfield 24, 3) := by decide +kernel
theorem dX5_words_4 : decode cX5_words 4 = .ok (.invokevirtual 123, 3) := by decide +kernel
theorem dX5_words_7 : decode cX5_words 7 = .ok (.ireturn, 1) := by decide +kernel
set_option maxRecDepth 20000 in
theorem ggX5_rank_X4_countLess : GoodIn wsX5_rank wsX4_countLess := goodIn_r _ [7, 8, 9, 10, 11, 6, 12, 13, 14, 15, 16, 17, 18, 19, 20, 21, 22, 23, 24, 25, 32, 33, 34, 35, 36, 37] (by decide +kernel) (by decide +kernel)
set_option maxRecDepth 20000 in
theorem gX5_rank_X4_countLess : GoodIn wsX5_rank (wsV RX5 141 RX4 yX4_countLess wsX4_countLess) := goodIn_app (goodIn_of _ (by decide +kernel)) ggX5_rank_X4_countLess
theorem dX5_rank_0 : decode cX5_rank 0 = .ok (.aload_n 0, 1) := by decide +kernel
theorem dX5_rank_1 : decode cX5_rank 1 = .ok (.getfield 24, 3) := by decide +kernel
theorem dX5_rank_4 : decode cX5_rank 4 = .ok (.aload_n 0, 1) := by decide +kernel
theorem dX5_rank_5 : decode cX5_rank 5 = .ok (.getfield 14, 3) := by decide +kernel
theorem dX5_rank_8 : decode cX5_rank 8 = .ok (.invokevirtual 141, 3) := by decide +kernel
theorem dX5_rank_11 : decode cX5_rank 11 = .ok (.ireturn, 1) := by decide +kernel
set_option maxRecDepth 20000 in
theorem ggX5_word_X4_size : GoodIn wsX5_word wsX4_size := goodIn_r _ [9, 10, 50, 51, 52, 53] (by decide +kernel) (by decide +kernel)
set_option maxRecDepth 20000 in
theorem gX5_word_X4_size : GoodIn wsX5_word (wsV RX5 123 RX4 yX4_size wsX4_size) := goodIn_app (goodIn_of _ (by decide +kernel)) ggX5_word_X4_size
set_option maxRecDepth 20000 in
theorem ggX5_word_X4_rowAt : GoodIn wsX5_word wsX4_rowAt := goodIn_r _ [14, 10, 15, 16, 50, 51, 52, 53] (by decide +kernel) (by decide +kernel)
set_option maxRecDepth 20000 in
theorem gX5_word_X4_rowAt : GoodIn wsX5_word (wsV RX5 146 RX4 yX4_rowAt wsX4_rowAt) := goodIn_app (goodIn_of _ (by decide +kernel)) ggX5_word_X4_rowAt
set_option maxRecDepth 20000 in
theorem ggX5_word_X2_become : GoodIn wsX5_word wsX2_become := goodIn_r _ [21, 22, 23, 24, 25, 20, 26, 27, 28, 29, 30, 31, 32, 33, 34, 35, 36, 37, 38, 39, 54, 55] (by decide +kernel) (by decide +kernel)
set_option maxRecDepth 20000 in
theorem gX5_word_X2_become : GoodIn wsX5_word (wsV RX5 150 RX2 yX2_become wsX2_become) := goodIn_app (goodIn_of _ (by decide +kernel)) ggX5_word_X2_become
set_option maxRecDepth 20000 in
theorem ggX5_word_X2_size : GoodIn wsX5_word wsX2_size := goodIn_r _ [43, 22, 54, 55] (by decide +kernel) (by decide +kernel)
set_option maxRecDepth 20000 in
theorem gX5_word_X2_size : GoodIn wsX5_word (wsV RX5 60 RX2 yX2_size wsX2_size) := goodIn_app (goodIn_of _ (by decide +kernel)) ggX5_word_X2_size
theorem dX5_word_0 : decode cX5_word 0 = .ok (.iload_n 1, 1) := by decide +kernel
theorem dX5_word_1 : decode cX5_word 1 = .ok (.ifCond .lt 14, 3) := by decide +kernel
theorem dX5_word_4 : decode cX5_word 4 = .ok (.iload_n 1, 1) := by decide +kernel
theorem dX5_word_5 : decode cX5_word 5 = .ok (.aload_n 0, 1) := by decide +kernel
theorem dX5_word_6 : decode cX5_word 6 = .ok (.getfield 24, 3) := by decide +kernel
theorem dX5_word_9 : decode cX5_word 9 = .ok (.invokevirtual 123, 3) := by decide +kernel
theorem dX5_word_12 : decode cX5_word 12 = .ok (.if_icmp .lt 13, 3) := by decide +kernel
theorem dX5_word_15 : decode cX5_word 15 = .ok (.new 82, 3) := by decide +kernel
theorem dX5_word_18 : decode cX5_word 18 = .ok (.dup, 1) := by decide +kernel
theorem dX5_word_19 : decode cX5_word 19 = .ok (.ldc 144, 2) := by decide +kernel
theorem dX5_word_21 : decode cX5_word 21 = .ok (.invokespecial 86, 3) := by decide +kernel
theorem dX5_word_24 : decode cX5_word 24 = .ok (.athrow, 1) := by decide +kernel
theorem dX5_word_25 : decode cX5_word 25 = .ok (.aload_n 0, 1) := by decide +kernel
theorem dX5_word_26 : decode cX5_word 26 = .ok (.getfield 14, 3) := by decide +kernel
theorem dX5_word_29 : decode cX5_word 29 = .ok (.aload_n 0, 1) := by decide +kernel
theorem dX5_word_30 : decode cX5_word 30 = .ok (.getfield 24, 3) := by decide +kernel
theorem dX5_word_33 : decode cX5_word 33 = .ok (.iload_n 1, 1) := by decide +kernel
theorem dX5_word_34 : decode cX5_word 34 = .ok (.invokevirtual 146, 3) := by decide +kernel
theorem dX5_word_37 : decode cX5_word 37 = .ok (.invokevirtual 150, 3) := by decide +kernel
theorem dX5_word_40 : decode cX5_word 40 = .ok (.aload_n 0, 1) := by decide +kernel
theorem dX5_word_41 : decode cX5_word 41 = .ok (.getfield 14, 3) := by decide +kernel
theorem dX5_word_44 : decode cX5_word 44 = .ok (.invokevirtual 60, 3) := by decide +kernel
theorem dX5_word_47 : decode cX5_word 47 = .ok (.ireturn, 1) := by decide +kernel
set_option maxRecDepth 20000 in
theorem ggX5_near_X5_rankNear : GoodIn wsX5_near wsX5_rankNear := goodIn_r _ [11, 5, 6, 12, 13, 14, 15, 16, 17, 18, 19, 20, 21, 22, 23, 24, 25, 26, 27, 28, 29, 30, 31, 32, 33, 34, 35, 36, 37, 38, 69, 70, 71, 72, 73, 74, 75, 76, 77, 78, 79, 80] (by decide +kernel) (by decide +kernel)
set_option maxRecDepth 20000 in
theorem gX5_near_X5_rankNear : GoodIn wsX5_near (wsV RX5 156 RX5 yX5_rankNear wsX5_rankNear) := goodIn_app (goodIn_of _ (by decide +kernel)) ggX5_near_X5_rankNear
set_option maxRecDepth 20000 in
theorem ggX5_near_X4_size : GoodIn wsX5_near wsX4_size := goodIn_r _ [42, 17, 75, 76, 77, 78] (by decide +kernel) (by decide +kernel)
set_option maxRecDepth 20000 in
theorem gX5_near_X4_size : GoodIn wsX5_near (wsV RX5 123 RX4 yX4_size wsX4_size) := goodIn_app (goodIn_of _ (by decide +kernel)) ggX5_near_X4_size
set_option maxRecDepth 20000 in
theorem ggX5_near_X4_rowAt : GoodIn wsX5_near wsX4_rowAt := goodIn_r _ [21, 17, 22, 23, 75, 76, 77, 78] (by decide +kernel) (by decide +kernel)
set_option maxRecDepth 20000 in
theorem gX5_near_X4_rowAt : GoodIn wsX5_near (wsV RX5 146 RX4 yX4_rowAt wsX4_rowAt) := goodIn_app (goodIn_of _ (by decide +kernel)) ggX5_near_X4_rowAt
set_option maxRecDepth 20000 in
theorem ggX5_near_X2_become : GoodIn wsX5_near wsX2_become := goodIn_r _ [47, 29, 48, 49, 50, 27, 51, 52, 53, 54, 55, 56, 57, 58, 59, 30, 60, 61, 62, 63, 79, 80] (by decide +kernel) (by decide +kernel)
set_option maxRecDepth 20000 in
theorem gX5_near_X2_become : GoodIn wsX5_near (wsV RX5 150 RX2 yX2_become wsX2_become) := goodIn_app (goodIn_of _ (by decide +kernel)) ggX5_near_X2_become
set_option maxRecDepth 20000 in
theorem ggX5_near_X4_numberAt : GoodIn wsX5_near wsX4_numberAt := goodIn_r _ [67, 17, 68, 75, 76, 77, 78] (by decide +kernel) (by decide +kernel)
set_option maxRecDepth 20000 in
theorem gX5_near_X4_numberAt : GoodIn wsX5_near (wsV RX5 129 RX4 yX4_numberAt wsX4_numberAt) := goodIn_app (goodIn_of _ (by decide +kernel)) ggX5_near_X4_numberAt
theorem dX5_near_0 : decode cX5_near 0 = .ok (.iload_n 1, 1) := by decide +kernel
theorem dX5_near_1 : decode cX5_near 1 = .ok (.bipush 102, 2) := by decide +kernel
theorem dX5_near_3 : decode cX5_near 3 = .ok (.if_icmp .eq 31, 3) := by decide +kernel
theorem dX5_near_6 : decode cX5_near 6 = .ok (.iload_n 1, 1) := by decide +kernel
theorem dX5_near_7 : decode cX5_near 7 = .ok (.bipush 99, 2) := by decide +kernel
theorem dX5_near_9 : decode cX5_near 9 = .ok (.if_icmp .eq 25, 3) := by decide +kernel
theorem dX5_near_12 : decode cX5_near 12 = .ok (.iload_n 1, 1) := by decide +kernel
theorem dX5_near_13 : decode cX5_near 13 = .ok (.bipush 108, 2) := by decide +kernel
theorem dX5_near_15 : decode cX5_near 15 = .ok (.if_icmp .eq 19, 3) := by decide +kernel
theorem dX5_near_18 : decode cX5_near 18 = .ok (.iload_n 1, 1) := by decide +kernel
theorem dX5_near_19 : decode cX5_near 19 = .ok (.bipush 104, 2) := by decide +kernel
theorem dX5_near_21 : decode cX5_near 21 = .ok (.if_icmp .eq 13, 3) := by decide +kernel
theorem dX5_near_24 : decode cX5_near 24 = .ok (.new 53, 3) := by decide +kernel
theorem dX5_near_27 : decode cX5_near 27 = .ok (.dup, 1) := by decide +kernel
theorem dX5_near_28 : decode cX5_near 28 = .ok (.ldc 154, 2) := by decide +kernel
theorem dX5_near_30 : decode cX5_near 30 = .ok (.invokespecial 57, 3) := by decide +kernel
theorem dX5_near_33 : decode cX5_near 33 = .ok (.athrow, 1) := by decide +kernel
theorem dX5_near_34 : decode cX5_near 34 = .ok (.aload_n 0, 1) := by decide +kernel
theorem dX5_near_35 : decode cX5_near 35 = .ok (.iload_n 1, 1) := by decide +kernel
theorem dX5_near_36 : decode cX5_near 36 = .ok (.invokevirtual 156, 3) := by decide +kernel
theorem dX5_near_39 : decode cX5_near 39 = .ok (.istore_n 2, 1) := by decide +kernel
theorem dX5_near_40 : decode cX5_near 40 = .ok (.iload_n 2, 1) := by decide +kernel
theorem dX5_near_41 : decode cX5_near 41 = .ok (.ifCond .lt 14, 3) := by decide +kernel
theorem dX5_near_44 : decode cX5_near 44 = .ok (.iload_n 2, 1) := by decide +kernel
theorem dX5_near_45 : decode cX5_near 45 = .ok (.aload_n 0, 1) := by decide +kernel
theorem dX5_near_46 : decode cX5_near 46 = .ok (.getfield 24, 3) := by decide +kernel
theorem dX5_near_49 : decode cX5_near 49 = .ok (.invokevirtual 123, 3) := by decide +kernel
theorem dX5_near_52 : decode cX5_near 52 = .ok (.if_icmp .lt 13, 3) := by decide +kernel
theorem dX5_near_55 : decode cX5_near 55 = .ok (.new 91, 3) := by decide +kernel
theorem dX5_near_58 : decode cX5_near 58 = .ok (.dup, 1) := by decide +kernel
theorem dX5_near_59 : decode cX5_near 59 = .ok (.ldc 160, 2) := by decide +kernel
theorem dX5_near_61 : decode cX5_near 61 = .ok (.invokespecial 95, 3) := by decide +kernel
theorem dX5_near_64 : decode cX5_near 64 = .ok (.athrow, 1) := by decide +kernel
theorem dX5_near_65 : decode cX5_near 65 = .ok (.aload_n 0, 1) := by decide +kernel
theorem dX5_near_66 : decode cX5_near 66 = .ok (.getfield 14, 3) := by decide +kernel
theorem dX5_near_69 : decode cX5_near 69 = .ok (.aload_n 0, 1) := by decide +kernel
theorem dX5_near_70 : decode cX5_near 70 = .ok (.getfield 24, 3) := by decide +kernel
theorem dX5_near_73 : decode cX5_near 73 = .ok (.iload_n 2, 1) := by decide +kernel
theorem dX5_near_74 : decode cX5_near 74 = .ok (.invokevirtual 146, 3) := by decide +kernel
theorem dX5_near_77 : decode cX5_near 77 = .ok (.invokevirtual 150, 3) := by decide +kernel
theorem dX5_near_80 : decode cX5_near 80 = .ok (.aload_n 0, 1) := by decide +kernel
theorem dX5_near_81 : decode cX5_near 81 = .ok (.getfield 24, 3) := by decide +kernel
theorem dX5_near_84 : decode cX5_near 84 = .ok (.iload_n 2, 1) := by decide +kernel
theorem dX5_near_85 : decode cX5_near 85 = .ok (.invokevirtual 129, 3) := by decide +kernel
theorem dX5_near_88 : decode cX5_near 88 = .ok (.ireturn, 1) := by decide +kernel
set_option maxRecDepth 20000 in
theorem ggX5_begun_X4_countBegun : GoodIn wsX5_begun wsX4_countBegun := goodIn_r _ [7, 8, 9, 10, 11, 6, 12, 13, 14, 15, 16, 17, 18, 19, 20, 21, 22, 23, 24, 25, 32, 33, 34, 35, 36, 37] (by decide +kernel) (by decide +kernel)
set_option maxRecDepth 20000 in
theorem gX5_begun_X4_countBegun : GoodIn wsX5_begun (wsV RX5 162 RX4 yX4_countBegun wsX4_countBegun) := goodIn_app (goodIn_of _ (by decide +kernel)) ggX5_begun_X4_countBegun
theorem dX5_begun_0 : decode cX5_begun 0 = .ok (.aload_n 0, 1) := by decide +kernel
theorem dX5_begun_1 : decode cX5_begun 1 = .ok (.getfield 24, 3) := by decide +kernel
theorem dX5_begun_4 : decode cX5_begun 4 = .ok (.aload_n 0, 1) := by decide +kernel
theorem dX5_begun_5 : decode cX5_begun 5 = .ok (.getfield 14, 3) := by decide +kernel
theorem dX5_begun_8 : decode cX5_begun 8 = .ok (.invokevirtual 162, 3) := by decide +kernel
theorem dX5_begun_11 : decode cX5_begun 11 = .ok (.ireturn, 1) := by decide +kernel
set_option maxRecDepth 20000 in
theorem ggX5_begunAt_X4_rankBegun : GoodIn wsX5_begunAt wsX4_rankBegun := goodIn_r _ [9, 10, 11, 12, 13, 8, 14, 15, 16, 17, 18, 19, 20, 21, 22, 23, 24, 25, 26, 27, 60, 61, 62, 63, 64, 65] (by decide +kernel) (by decide +kernel)
set_option maxRecDepth 20000 in
theorem gX5_begunAt_X4_rankBegun : GoodIn wsX5_begunAt (wsV RX5 165 RX4 yX4_rankBegun wsX4_rankBegun) := goodIn_app (goodIn_of _ (by decide +kernel)) ggX5_begunAt_X4_rankBegun
set_option maxRecDepth 20000 in
theorem ggX5_begunAt_X4_rowAt : GoodIn wsX5_begunAt wsX4_rowAt := goodIn_r _ [14, 10, 15, 16, 60, 61, 62, 63] (by decide +kernel) (by decide +kernel)
set_option maxRecDepth 20000 in
theorem gX5_begunAt_X4_rowAt : GoodIn wsX5_begunAt (wsV RX5 146 RX4 yX4_rowAt wsX4_rowAt) := goodIn_app (goodIn_of _ (by decide +kernel)) ggX5_begunAt_X4_rowAt
set_option maxRecDepth 20000 in
theorem ggX5_begunAt_X2_become : GoodIn wsX5_begunAt wsX2_become := goodIn_r _ [32, 26, 33, 34, 35, 20, 36, 37, 38, 39, 40, 41, 42, 43, 44, 27, 45, 46, 47, 48, 64, 65] (by decide +kernel) (by decide +kernel)
set_option maxRecDepth 20000 in
theorem gX5_begunAt_X2_become : GoodIn wsX5_begunAt (wsV RX5 150 RX2 yX2_become wsX2_become) := goodIn_app (goodIn_of _ (by decide +kernel)) ggX5_begunAt_X2_become
set_option maxRecDepth 20000 in
theorem ggX5_begunAt_X4_numberAt : GoodIn wsX5_begunAt wsX4_numberAt := goodIn_r _ [52, 10, 53, 60, 61, 62, 63] (by decide +kernel) (by decide +kernel)
set_option maxRecDepth 20000 in
theorem gX5_begunAt_X4_numberAt : GoodIn wsX5_begunAt (wsV RX5 129 RX4 yX4_numberAt wsX4_numberAt) := goodIn_app (goodIn_of _ (by decide +kernel)) ggX5_begunAt_X4_numberAt
theorem dX5_begunAt_0 : decode cX5_begunAt 0 = .ok (.aload_n 0, 1) := by decide +kernel
theorem dX5_begunAt_1 : decode cX5_begunAt 1 = .ok (.getfield 24, 3) := by decide +kernel
theorem dX5_begunAt_4 : decode cX5_begunAt 4 = .ok (.aload_n 0, 1) := by decide +kernel
theorem dX5_begunAt_5 : decode cX5_begunAt 5 = .ok (.getfield 14, 3) := by decide +kernel
theorem dX5_begunAt_8 : decode cX5_begunAt 8 = .ok (.iload_n 1, 1) := by decide +kernel
theorem dX5_begunAt_9 : decode cX5_begunAt 9 = .ok (.invokevirtual 165, 3) := by decide +kernel
theorem dX5_begunAt_12 : decode cX5_begunAt 12 = .ok (.istore_n 2, 1) := by decide +kernel
theorem dX5_begunAt_13 : decode cX5_begunAt 13 = .ok (.iload_n 2, 1) := by decide +kernel
theorem dX5_begunAt_14 : decode cX5_begunAt 14 = .ok (.iconst (-1), 1) := by decide +kernel
theorem dX5_begunAt_15 : decode cX5_begunAt 15 = .ok (.if_icmp .ne 13, 3) := by decide +kernel
theorem dX5_begunAt_18 : decode cX5_begunAt 18 = .ok (.new 91, 3) := by decide +kernel
theorem dX5_begunAt_21 : decode cX5_begunAt 21 = .ok (.dup, 1) := by decide +kernel
theorem dX5_begunAt_22 : decode cX5_begunAt 22 = .ok (.ldc 160, 2) := by decide +kernel
theorem dX5_begunAt_24 : decode cX5_begunAt 24 = .ok (.invokespecial 95, 3) := by decide +kernel
theorem dX5_begunAt_27 : decode cX5_begunAt 27 = .ok (.athrow, 1) := by decide +kernel
theorem dX5_begunAt_28 : decode cX5_begunAt 28 = .ok (.aload_n 0, 1) := by decide +kernel
theorem dX5_begunAt_29 : decode cX5_begunAt 29 = .ok (.getfield 14, 3) := by decide +kernel
theorem dX5_begunAt_32 : decode cX5_begunAt 32 = .ok (.aload_n 0, 1) := by decide +kernel
theorem dX5_begunAt_33 : decode cX5_begunAt 33 = .ok (.getfield 24, 3) := by decide +kernel
theorem dX5_begunAt_36 : decode cX5_begunAt 36 = .ok (.iload_n 2, 1) := by decide +kernel
theorem dX5_begunAt_37 : decode cX5_begunAt 37 = .ok (.invokevirtual 146, 3) := by decide +kernel
theorem dX5_begunAt_40 : decode cX5_begunAt 40 = .ok (.invokevirtual 150, 3) := by decide +kernel
theorem dX5_begunAt_43 : decode cX5_begunAt 43 = .ok (.aload_n 0, 1) := by decide +kernel
theorem dX5_begunAt_44 : decode cX5_begunAt 44 = .ok (.getfield 24, 3) := by decide +kernel
theorem dX5_begunAt_47 : decode cX5_begunAt 47 = .ok (.iload_n 2, 1) := by decide +kernel
theorem dX5_begunAt_48 : decode cX5_begunAt 48 = .ok (.invokevirtual 129, 3) := by decide +kernel
theorem dX5_begunAt_51 : decode cX5_begunAt 51 = .ok (.ireturn, 1) := by decide +kernel
set_option maxRecDepth 20000 in
theorem ggX5_sum_X4_sumBegun : GoodIn wsX5_sum wsX4_sumBegun := goodIn_r _ [7, 8, 9, 10, 11, 6, 12, 13, 14, 15, 16, 17, 18, 19, 20, 21, 22, 23, 24, 25, 26, 27, 28, 29, 30, 37, 38, 39, 40, 41, 42] (by decide +kernel) (by decide +kernel)
set_option maxRecDepth 20000 in
theorem gX5_sum_X4_sumBegun : GoodIn wsX5_sum (wsV RX5 169 RX4 yX4_sumBegun wsX4_sumBegun) := goodIn_app (goodIn_of _ (by decide +kernel)) ggX5_sum_X4_sumBegun
theorem dX5_sum_0 : decode cX5_sum 0 = .ok (.aload_n 0, 1) := by decide +kernel
theorem dX5_sum_1 : decode cX5_sum 1 = .ok (.getfield 24, 3) := by decide +kernel
theorem dX5_sum_4 : decode cX5_sum 4 = .ok (.aload_n 0, 1) := by decide +kernel
theorem dX5_sum_5 : decode cX5_sum 5 = .ok (.getfield 14, 3) := by decide +kernel
theorem dX5_sum_8 : decode cX5_sum 8 = .ok (.invokevirtual 169, 3) := by decide +kernel
theorem dX5_sum_11 : decode cX5_sum 11 = .ok (.ireturn, 1) := by decide +kernel
set_option maxRecDepth 20000 in
theorem ggX5_gone_X4_removeBegun : GoodIn wsX5_gone wsX4_removeBegun := goodIn_r _ [7, 8, 9, 10, 11, 6, 12, 13, 14, 15, 16, 17, 18, 19, 20, 21, 22, 23, 24, 25, 26, 27, 28, 29, 30, 37, 38, 39, 40, 41, 42] (by decide +kernel) (by decide +kernel)
set_option maxRecDepth 20000 in
theorem gX5_gone_X4_removeBegun : GoodIn wsX5_gone (wsV RX5 172 RX4 yX4_removeBegun wsX4_removeBegun) := goodIn_app (goodIn_of _ (by decide +kernel)) ggX5_gone_X4_removeBegun
theorem dX5_gone_0 : decode cX5_gone 0 = .ok (.aload_n 0, 1) := by decide +kernel
theorem dX5_gone_1 : decode cX5_gone 1 = .ok (.getfield 24, 3) := by decide +kernel
theorem dX5_gone_4 : decode cX5_gone 4 = .ok (.aload_n 0, 1) := by decide +kernel
theorem dX5_gone_5 : decode cX5_gone 5 = .ok (.getfield 14, 3) := by decide +kernel
theorem dX5_gone_8 : decode cX5_gone 8 = .ok (.invokevirtual 172, 3) := by decide +kernel
theorem dX5_gone_11 : decode cX5_gone 11 = .ok (.ireturn, 1) := by decide +kernel
set_option maxRecDepth 20000 in
theorem ggX5_longest_X2_size : GoodIn wsX5_longest wsX2_size := goodIn_r _ [9, 10, 39, 40] (by decide +kernel) (by decide +kernel)
set_option maxRecDepth 20000 in
theorem gX5_longest_X2_size : GoodIn wsX5_longest (wsV RX5 60 RX2 yX2_size wsX2_size) := goodIn_app (goodIn_of _ (by decide +kernel)) ggX5_longest_X2_size
set_option maxRecDepth 20000 in
theorem ggX5_longest_X4_longestAt : GoodIn wsX5_longest wsX4_longestAt := goodIn_r _ [15, 16, 17, 18, 19, 20, 21, 22, 23, 14, 24, 25, 26, 27, 28, 29, 8, 30, 10, 31, 32, 6, 7, 9, 41, 42, 43, 44, 39, 40] (by decide +kernel) (by decide +kernel)
set_option maxRecDepth 20000 in
theorem gX5_longest_X4_longestAt : GoodIn wsX5_longest (wsV RX5 175 RX4 yX4_longestAt wsX4_longestAt) := goodIn_app (goodIn_of _ (by decide +kernel)) ggX5_longest_X4_longestAt
theorem dX5_longest_0 : decode cX5_longest 0 = .ok (.iload_n 1, 1) := by decide +kernel
theorem dX5_longest_1 : decode cX5_longest 1 = .ok (.ifCond .lt 14, 3) := by decide +kernel
theorem dX5_longest_4 : decode cX5_longest 4 = .ok (.iload_n 1, 1) := by decide +kernel
theorem dX5_longest_5 : decode cX5_longest 5 = .ok (.aload_n 0, 1) := by decide +kernel
theorem dX5_longest_6 : decode cX5_longest 6 = .ok (.getfield 14, 3) := by decide +kernel
theorem dX5_longest_9 : decode cX5_longest 9 = .ok (.invokevirtual 60, 3) := by decide +kernel
theorem dX5_longest_12 : decode cX5_longest 12 = .ok (.if_icmp .le 13, 3) := by decide +kernel
theorem dX5_longest_15 : decode cX5_longest 15 = .ok (.new 82, 3) := by decide +kernel
theorem dX5_longest_18 : decode cX5_longest 18 = .ok (.dup, 1) := by decide +kernel
theorem dX5_longest_19 : decode cX5_longest 19 = .ok (.ldc 84, 2) := by decide +kernel
theorem dX5_longest_21 : decode cX5_longest 21 = .ok (.invokespecial 86, 3) := by decide +kernel
theorem dX5_longest_24 : decode cX5_longest 24 = .ok (.athrow, 1) := by decide +kernel
theorem dX5_longest_25 : decode cX5_longest 25 = .ok (.aload_n 0, 1) := by decide +kernel
theorem dX5_longest_26 : decode cX5_longest 26 = .ok (.getfield 24, 3) := by decide +kernel
theorem dX5_longest_29 : decode cX5_longest 29 = .ok (.aload_n 0, 1) := by decide +kernel
theorem dX5_longest_30 : decode cX5_longest 30 = .ok (.getfield 14, 3) := by decide +kernel
theorem dX5_longest_33 : decode cX5_longest 33 = .ok (.iload_n 1, 1) := by decide +kernel
theorem dX5_longest_34 : decode cX5_longest 34 = .ok (.invokevirtual 175, 3) := by decide +kernel
theorem dX5_longest_37 : decode cX5_longest 37 = .ok (.ireturn, 1) := by decide +kernel
set_option maxRecDepth 20000 in
theorem ggX5_shared_X4_mostCommon : GoodIn wsX5_shared wsX4_mostCommon := goodIn_r _ [7, 8, 9, 10, 11, 12, 13, 14, 15, 6, 16, 17, 18, 19, 20, 21, 22, 23, 24, 25, 32, 33, 34, 35, 36, 37] (by decide +kernel) (by decide +kernel)
set_option maxRecDepth 20000 in
theorem gX5_shared_X4_mostCommon : GoodIn wsX5_shared (wsV RX5 178 RX4 yX4_mostCommon wsX4_mostCommon) := goodIn_app (goodIn_of _ (by decide +kernel)) ggX5_shared_X4_mostCommon
theorem dX5_shared_0 : decode cX5_shared 0 = .ok (.aload_n 0, 1) := by decide +kernel
theorem dX5_shared_1 : decode cX5_shared 1 = .ok (.getfield 24, 3) := by decide +kernel
theorem dX5_shared_4 : decode cX5_shared 4 = .ok (.aload_n 0, 1) := by decide +kernel
theorem dX5_shared_5 : decode cX5_shared 5 = .ok (.getfield 14, 3) := by decide +kernel
theorem dX5_shared_8 : decode cX5_shared 8 = .ok (.invokevirtual 178, 3) := by decide +kernel
theorem dX5_shared_11 : decode cX5_shared 11 = .ok (.ireturn, 1) := by decide +kernel
set_option maxRecDepth 20000 in
theorem ggX5_twin_X4_size : GoodIn wsX5_twin wsX4_size := goodIn_r _ [8, 9, 37, 38, 39, 40] (by decide +kernel) (by decide +kernel)
set_option maxRecDepth 20000 in
theorem gX5_twin_X4_size : GoodIn wsX5_twin (wsV RX5 123 RX4 yX4_size wsX4_size) := goodIn_app (goodIn_of _ (by decide +kernel)) ggX5_twin_X4_size
set_option maxRecDepth 20000 in
theorem ggX5_twin_X4_mostCommonOfTwo : GoodIn wsX5_twin wsX4_mostCommonOfTwo := goodIn_r _ [13, 9, 14, 15, 16, 17, 18, 19, 20, 7, 21, 22, 23, 24, 25, 26, 27, 28, 29, 30, 37, 38, 39, 40, 41, 42] (by decide +kernel) (by decide +kernel)
set_option maxRecDepth 20000 in
theorem gX5_twin_X4_mostCommonOfTwo : GoodIn wsX5_twin (wsV RX5 183 RX4 yX4_mostCommonOfTwo wsX4_mostCommonOfTwo) := goodIn_app (goodIn_of _ (by decide +kernel)) ggX5_twin_X4_mostCommonOfTwo
theorem dX5_twin_0 : decode cX5_twin 0 = .ok (.aload_n 0, 1) := by decide +kernel
theorem dX5_twin_1 : decode cX5_twin 1 = .ok (.getfield 24, 3) := by decide +kernel
theorem dX5_twin_4 : decode cX5_twin 4 = .ok (.invokevirtual 123, 3) := by decide +kernel
theorem dX5_twin_7 : decode cX5_twin 7 = .ok (.iconst 2, 1) := by decide +kernel
theorem dX5_twin_8 : decode cX5_twin 8 = .ok (.if_icmp .ge 13, 3) := by decide +kernel
theorem dX5_twin_11 : decode cX5_twin 11 = .ok (.new 91, 3) := by decide +kernel
theorem dX5_twin_14 : decode cX5_twin 14 = .ok (.dup, 1) := by decide +kernel
theorem dX5_twin_15 : decode cX5_twin 15 = .ok (.ldc 181, 2) := by decide +kernel
theorem dX5_twin_17 : decode cX5_twin 17 = .ok (.invokespecial 95, 3) := by decide +kernel
theorem dX5_twin_20 : decode cX5_twin 20 = .ok (.athrow, 1) := by decide +kernel
theorem dX5_twin_21 : decode cX5_twin 21 = .ok (.aload_n 0, 1) := by decide +kernel
theorem dX5_twin_22 : decode cX5_twin 22 = .ok (.getfield 24, 3) := by decide +kernel
theorem dX5_twin_25 : decode cX5_twin 25 = .ok (.invokevirtual 183, 3) := by decide +kernel
theorem dX5_twin_28 : decode cX5_twin 28 = .ok (.ireturn, 1) := by decide +kernel
set_option maxRecDepth 20000 in
theorem ggX5_pieces_X1_look : GoodIn wsX5_pieces wsX1_look := goodIn_r _ [8, 9, 10, 11, 12, 13, 14, 15, 16, 17, 18, 19, 20, 21, 22, 23, 24, 25, 26, 27, 28, 29, 30, 31, 32, 33, 34, 35, 36, 37, 56, 57, 58, 59, 60, 61, 62, 63, 64, 65] (by decide +kernel) (by decide +kernel)
set_option maxRecDepth 20000 in
theorem gX5_pieces_X1_look : GoodIn wsX5_pieces (wsV RX5 186 RX1 yX1_look wsX1_look) := goodIn_app (goodIn_of _ (by decide +kernel)) ggX5_pieces_X1_look
set_option maxRecDepth 20000 in
theorem ggX5_pieces_X1_countLongest : GoodIn wsX5_pieces wsX1_countLongest := goodIn_r _ [41, 13, 42, 43, 44, 7, 45, 46, 47, 48, 49, 14, 56, 57, 58, 59] (by decide +kernel) (by decide +kernel)
set_option maxRecDepth 20000 in
theorem gX5_pieces_X1_countLongest : GoodIn wsX5_pieces (wsV RX5 190 RX1 yX1_countLongest wsX1_countLongest) := goodIn_app (goodIn_of _ (by decide +kernel)) ggX5_pieces_X1_countLongest
theorem dX5_pieces_0 : decode cX5_pieces 0 = .ok (.aload_n 0, 1) := by decide +kernel
theorem dX5_pieces_1 : decode cX5_pieces 1 = .ok (.getfield 38, 3) := by decide +kernel
theorem dX5_pieces_4 : decode cX5_pieces 4 = .ok (.aload_n 0, 1) := by decide +kernel
theorem dX5_pieces_5 : decode cX5_pieces 5 = .ok (.getfield 14, 3) := by decide +kernel
theorem dX5_pieces_8 : decode cX5_pieces 8 = .ok (.aload_n 0, 1) := by decide +kernel
theorem dX5_pieces_9 : decode cX5_pieces 9 = .ok (.getfield 24, 3) := by decide +kernel
theorem dX5_pieces_12 : decode cX5_pieces 12 = .ok (.invokevirtual 186, 3) := by decide +kernel
theorem dX5_pieces_15 : decode cX5_pieces 15 = .ok (.aload_n 0, 1) := by decide +kernel
theorem dX5_pieces_16 : decode cX5_pieces 16 = .ok (.getfield 38, 3) := by decide +kernel
theorem dX5_pieces_19 : decode cX5_pieces 19 = .ok (.invokevirtual 190, 3) := by decide +kernel
theorem dX5_pieces_22 : decode cX5_pieces 22 = .ok (.ireturn, 1) := by decide +kernel
set_option maxRecDepth 20000 in
theorem ggX5_piece_X1_look : GoodIn wsX5_piece wsX1_look := goodIn_r _ [10, 11, 12, 13, 14, 15, 16, 17, 18, 19, 20, 21, 22, 23, 24, 25, 26, 27, 28, 29, 30, 31, 32, 33, 34, 35, 36, 37, 38, 39, 58, 59, 60, 61, 62, 63, 64, 65, 66, 67] (by decide +kernel) (by decide +kernel)
set_option maxRecDepth 20000 in
theorem gX5_piece_X1_look : GoodIn wsX5_piece (wsV RX5 186 RX1 yX1_look wsX1_look) := goodIn_app (goodIn_of _ (by decide +kernel)) ggX5_piece_X1_look
set_option maxRecDepth 20000 in
theorem ggX5_piece_X1_sizeOfLongest : GoodIn wsX5_piece wsX1_sizeOfLongest := goodIn_r _ [43, 15, 44, 45, 46, 9, 47, 48, 49, 50, 51, 16, 58, 59, 60, 61] (by decide +kernel) (by decide +kernel)
set_option maxRecDepth 20000 in
theorem gX5_piece_X1_sizeOfLongest : GoodIn wsX5_piece (wsV RX5 193 RX1 yX1_sizeOfLongest wsX1_sizeOfLongest) := goodIn_app (goodIn_of _ (by decide +kernel)) ggX5_piece_X1_sizeOfLongest
theorem dX5_piece_0 : decode cX5_piece 0 = .ok (.aload_n 0, 1) := by decide +kernel
theorem dX5_piece_1 : decode cX5_piece 1 = .ok (.getfield 38, 3) := by decide +kernel
theorem dX5_piece_4 : decode cX5_piece 4 = .ok (.aload_n 0, 1) := by decide +kernel
theorem dX5_piece_5 : decode cX5_piece 5 = .ok (.getfield 14, 3) := by decide +kernel
theorem dX5_piece_8 : decode cX5_piece 8 = .ok (.aload_n 0, 1) := by decide +kernel
theorem dX5_piece_9 : decode cX5_piece 9 = .ok (.getfield 24, 3) := by decide +kernel
theorem dX5_piece_12 : decode cX5_piece 12 = .ok (.invokevirtual 186, 3) := by decide +kernel
theorem dX5_piece_15 : decode cX5_piece 15 = .ok (.aload_n 0, 1) := by decide +kernel
theorem dX5_piece_16 : decode cX5_piece 16 = .ok (.getfield 38, 3) := by decide +kernel
theorem dX5_piece_19 : decode cX5_piece 19 = .ok (.iload_n 1, 1) := by decide +kernel
theorem dX5_piece_20 : decode cX5_piece 20 = .ok (.invokevirtual 193, 3) := by decide +kernel
theorem dX5_piece_23 : decode cX5_piece 23 = .ok (.istore_n 2, 1) := by decide +kernel
theorem dX5_piece_24 : decode cX5_piece 24 = .ok (.iload_n 2, 1) := by decide +kernel
theorem dX5_piece_25 : decode cX5_piece 25 = .ok (.ifCond .ne 13, 3) := by decide +kernel
theorem dX5_piece_28 : decode cX5_piece 28 = .ok (.new 91, 3) := by decide +kernel
theorem dX5_piece_31 : decode cX5_piece 31 = .ok (.dup, 1) := by decide +kernel
theorem dX5_piece_32 : decode cX5_piece 32 = .ok (.ldc 196, 2) := by decide +kernel
theorem dX5_piece_34 : decode cX5_piece 34 = .ok (.invokespecial 95, 3) := by decide +kernel
theorem dX5_piece_37 : decode cX5_piece 37 = .ok (.athrow, 1) := by decide +kernel
theorem dX5_piece_38 : decode cX5_piece 38 = .ok (.iload_n 2, 1) := by decide +kernel
theorem dX5_piece_39 : decode cX5_piece 39 = .ok (.ireturn, 1) := by decide +kernel
set_option maxRecDepth 20000 in
theorem ggX5_cuts_X1_look : GoodIn wsX5_cuts wsX1_look := goodIn_r _ [8, 9, 10, 11, 12, 13, 14, 15, 16, 17, 18, 19, 20, 21, 22, 23, 24, 25, 26, 27, 28, 29, 30, 31, 32, 33, 34, 35, 36, 37, 53, 54, 55, 56, 57, 58, 59, 60, 61, 62] (by decide +kernel) (by decide +kernel)
set_option maxRecDepth 20000 in
theorem gX5_cuts_X1_look : GoodIn wsX5_cuts (wsV RX5 186 RX1 yX1_look wsX1_look) := goodIn_app (goodIn_of _ (by decide +kernel)) ggX5_cuts_X1_look
set_option maxRecDepth 20000 in
theorem ggX5_cuts_X1_countWays : GoodIn wsX5_cuts wsX1_countWays := goodIn_r _ [41, 13, 42, 43, 44, 45, 7, 46, 14, 53, 54, 55, 56] (by decide +kernel) (by decide +kernel)
set_option maxRecDepth 20000 in
theorem gX5_cuts_X1_countWays : GoodIn wsX5_cuts (wsV RX5 198 RX1 yX1_countWays wsX1_countWays) := goodIn_app (goodIn_of _ (by decide +kernel)) ggX5_cuts_X1_countWays
theorem dX5_cuts_0 : decode cX5_cuts 0 = .ok (.aload_n 0, 1) := by decide +kernel
theorem dX5_cuts_1 : decode cX5_cuts 1 = .ok (.getfield 38, 3) := by decide +kernel
theorem dX5_cuts_4 : decode cX5_cuts 4 = .ok (.aload_n 0, 1) := by decide +kernel
theorem dX5_cuts_5 : decode cX5_cuts 5 = .ok (.getfield 14, 3) := by decide +kernel
theorem dX5_cuts_8 : decode cX5_cuts 8 = .ok (.aload_n 0, 1) := by decide +kernel
theorem dX5_cuts_9 : decode cX5_cuts 9 = .ok (.getfield 24, 3) := by decide +kernel
theorem dX5_cuts_12 : decode cX5_cuts 12 = .ok (.invokevirtual 186, 3) := by decide +kernel
theorem dX5_cuts_15 : decode cX5_cuts 15 = .ok (.aload_n 0, 1) := by decide +kernel
theorem dX5_cuts_16 : decode cX5_cuts 16 = .ok (.getfield 38, 3) := by decide +kernel
theorem dX5_cuts_19 : decode cX5_cuts 19 = .ok (.iconst 0, 1) := by decide +kernel
theorem dX5_cuts_20 : decode cX5_cuts 20 = .ok (.invokevirtual 198, 3) := by decide +kernel
theorem dX5_cuts_23 : decode cX5_cuts 23 = .ok (.lreturn, 1) := by decide +kernel
set_option maxRecDepth 20000 in
theorem ggX5_fewest_X1_look : GoodIn wsX5_fewest wsX1_look := goodIn_r _ [8, 9, 10, 11, 12, 13, 14, 15, 16, 17, 18, 19, 20, 21, 22, 23, 24, 25, 26, 27, 28, 29, 30, 31, 32, 33, 34, 35, 36, 37, 56, 57, 58, 59, 60, 61, 62, 63, 64, 65] (by decide +kernel) (by decide +kernel)
set_option maxRecDepth 20000 in
theorem gX5_fewest_X1_look : GoodIn wsX5_fewest (wsV RX5 186 RX1 yX1_look wsX1_look) := goodIn_app (goodIn_of _ (by decide +kernel)) ggX5_fewest_X1_look
set_option maxRecDepth 20000 in
theorem ggX5_fewest_X1_leastPieces : GoodIn wsX5_fewest wsX1_leastPieces := goodIn_r _ [41, 42, 13, 43, 44, 45, 7, 46, 14, 47, 48, 49, 9, 10, 11, 12, 56, 57, 58, 59] (by decide +kernel) (by decide +kernel)
set_option maxRecDepth 20000 in
theorem gX5_fewest_X1_leastPieces : GoodIn wsX5_fewest (wsV RX5 202 RX1 yX1_leastPieces wsX1_leastPieces) := goodIn_app (goodIn_of _ (by decide +kernel)) ggX5_fewest_X1_leastPieces
theorem dX5_fewest_0 : decode cX5_fewest 0 = .ok (.aload_n 0, 1) := by decide +kernel
theorem dX5_fewest_1 : decode cX5_fewest 1 = .ok (.getfield 38, 3) := by decide +kernel
theorem dX5_fewest_4 : decode cX5_fewest 4 = .ok (.aload_n 0, 1) := by decide +kernel
theorem dX5_fewest_5 : decode cX5_fewest 5 = .ok (.getfield 14, 3) := by decide +kernel
theorem dX5_fewest_8 : decode cX5_fewest 8 = .ok (.aload_n 0, 1) := by decide +kernel
theorem dX5_fewest_9 : decode cX5_fewest 9 = .ok (.getfield 24, 3) := by decide +kernel
theorem dX5_fewest_12 : decode cX5_fewest 12 = .ok (.invokevirtual 186, 3) := by decide +kernel
theorem dX5_fewest_15 : decode cX5_fewest 15 = .ok (.aload_n 0, 1) := by decide +kernel
theorem dX5_fewest_16 : decode cX5_fewest 16 = .ok (.getfield 38, 3) := by decide +kernel
theorem dX5_fewest_19 : decode cX5_fewest 19 = .ok (.invokevirtual 202, 3) := by decide +kernel
theorem dX5_fewest_22 : decode cX5_fewest 22 = .ok (.ireturn, 1) := by decide +kernel
set_option maxRecDepth 20000 in
theorem ggX5_code_X5_isSign : GoodIn wsX5_code wsX5_isSign := goodIn_r _ [10] (by decide +kernel) (by decide +kernel)
set_option maxRecDepth 20000 in
theorem gX5_code_X5_isSign : GoodIn wsX5_code (va_wsS RX5 49 yX5_isSign wsX5_isSign) := goodIn_app (goodIn_of _ (by decide +kernel)) ggX5_code_X5_isSign
set_option maxRecDepth 20000 in
theorem ggX5_code_X2_size : GoodIn wsX5_code wsX2_size := goodIn_r _ [15, 16, 51, 52] (by decide +kernel) (by decide +kernel)
set_option maxRecDepth 20000 in
theorem gX5_code_X2_size : GoodIn wsX5_code (wsV RX5 60 RX2 yX2_size wsX2_size) := goodIn_app (goodIn_of _ (by decide +kernel)) ggX5_code_X2_size
set_option maxRecDepth 20000 in
theorem ggX5_code_X0_codeOf : GoodIn wsX5_code wsX0_codeOf := goodIn_r _ [21, 22, 23, 8, 9, 10, 53, 54, 55] (by decide +kernel) (by decide +kernel)
set_option maxRecDepth 20000 in
theorem gX5_code_X0_codeOf : GoodIn wsX5_code (wsV RX5 207 RX0 yX0_codeOf wsX0_codeOf) := goodIn_app (goodIn_of _ (by decide +kernel)) ggX5_code_X0_codeOf
set_option maxRecDepth 20000 in
theorem ggX5_code_X2_become : GoodIn wsX5_code wsX2_become := goodIn_r _ [27, 16, 28, 29, 30, 14, 31, 32, 33, 34, 35, 36, 37, 38, 39, 40, 41, 42, 43, 44, 51, 52] (by decide +kernel) (by decide +kernel)
set_option maxRecDepth 20000 in
theorem gX5_code_X2_become : GoodIn wsX5_code (wsV RX5 150 RX2 yX2_become wsX2_become) := goodIn_app (goodIn_of _ (by decide +kernel)) ggX5_code_X2_become
theorem dX5_code_0 : decode cX5_code 0 = .ok (.iload_n 1, 1) := by decide +kernel
theorem dX5_code_1 : decode cX5_code 1 = .ok (.invokestatic 49, 3) := by decide +kernel
theorem dX5_code_4 : decode cX5_code 4 = .ok (.ifCond .ne 13, 3) := by decide +kernel
theorem dX5_code_7 : decode cX5_code 7 = .ok (.new 53, 3) := by decide +kernel
theorem dX5_code_10 : decode cX5_code 10 = .ok (.dup, 1) := by decide +kernel
theorem dX5_code_11 : decode cX5_code 11 = .ok (.ldc 55, 2) := by decide +kernel
theorem dX5_code_13 : decode cX5_code 13 = .ok (.invokespecial 57, 3) := by decide +kernel
theorem dX5_code_16 : decode cX5_code 16 = .ok (.athrow, 1) := by decide +kernel
theorem dX5_code_17 : decode cX5_code 17 = .ok (.aload_n 0, 1) := by decide +kernel
theorem dX5_code_18 : decode cX5_code 18 = .ok (.getfield 14, 3) := by decide +kernel
theorem dX5_code_21 : decode cX5_code 21 = .ok (.invokevirtual 60, 3) := by decide +kernel
theorem dX5_code_24 : decode cX5_code 24 = .ok (.ifCond .eq 14, 3) := by decide +kernel
theorem dX5_code_27 : decode cX5_code 27 = .ok (.aload_n 0, 1) := by decide +kernel
theorem dX5_code_28 : decode cX5_code 28 = .ok (.getfield 14, 3) := by decide +kernel
theorem dX5_code_31 : decode cX5_code 31 = .ok (.invokevirtual 60, 3) := by decide +kernel
theorem dX5_code_34 : decode cX5_code 34 = .ok (.iconst 3, 1) := by decide +kernel
theorem dX5_code_35 : decode cX5_code 35 = .ok (.if_icmp .le 13, 3) := by decide +kernel
theorem dX5_code_38 : decode cX5_code 38 = .ok (.new 114, 3) := by decide +kernel
theorem dX5_code_41 : decode cX5_code 41 = .ok (.dup, 1) := by decide +kernel
theorem dX5_code_42 : decode cX5_code 42 = .ok (.ldc 205, 2) := by decide +kernel
theorem dX5_code_44 : decode cX5_code 44 = .ok (.invokespecial 118, 3) := by decide +kernel
theorem dX5_code_47 : decode cX5_code 47 = .ok (.athrow, 1) := by decide +kernel
theorem dX5_code_48 : decode cX5_code 48 = .ok (.aload_n 0, 1) := by decide +kernel
theorem dX5_code_49 : decode cX5_code 49 = .ok (.getfield 31, 3) := by decide +kernel
theorem dX5_code_52 : decode cX5_code 52 = .ok (.iload_n 1, 1) := by decide +kernel
theorem dX5_code_53 : decode cX5_code 53 = .ok (.invokevirtual 207, 3) := by decide +kernel
theorem dX5_code_56 : decode cX5_code 56 = .ok (.astore_n 2, 1) := by decide +kernel
theorem dX5_code_57 : decode cX5_code 57 = .ok (.aload_n 2, 1) := by decide +kernel
theorem dX5_code_58 : decode cX5_code 58 = .ok (.invokevirtual 60, 3) := by decide +kernel
theorem dX5_code_61 : decode cX5_code 61 = .ok (.istore_n 3, 1) := by decide +kernel
theorem dX5_code_62 : decode cX5_code 62 = .ok (.aload_n 2, 1) := by decide +kernel
theorem dX5_code_63 : decode cX5_code 63 = .ok (.aload_n 0, 1) := by decide +kernel
theorem dX5_code_64 : decode cX5_code 64 = .ok (.getfield 14, 3) := by decide +kernel
theorem dX5_code_67 : decode cX5_code 67 = .ok (.invokevirtual 150, 3) := by decide +kernel
theorem dX5_code_70 : decode cX5_code 70 = .ok (.iload_n 3, 1) := by decide +kernel
theorem dX5_code_71 : decode cX5_code 71 = .ok (.ireturn, 1) := by decide +kernel
set_option maxRecDepth 20000 in
theorem ggX5_write_X0_sizeWritten : GoodIn wsX5_write wsX0_sizeWritten := goodIn_r _ [10, 11, 12, 13, 14, 15, 16, 17, 18, 19, 20, 21, 22, 23, 24, 9, 25, 26, 27, 28, 29, 30, 64, 65, 66, 67, 68] (by decide +kernel) (by decide +kernel)
set_option maxRecDepth 20000 in
theorem gX5_write_X0_sizeWritten : GoodIn wsX5_write (wsV RX5 211 RX0 yX0_sizeWritten wsX0_sizeWritten) := goodIn_app (goodIn_of _ (by decide +kernel)) ggX5_write_X0_sizeWritten
set_option maxRecDepth 20000 in
theorem ggX5_write_X0_writeInto : GoodIn wsX5_write wsX0_writeInto := goodIn_r _ [34, 35, 36, 37, 14, 38, 16, 11, 12, 13, 15, 17, 18, 19, 20, 21, 22, 23, 24, 9, 25, 26, 27, 28, 29, 30, 39, 40, 41, 42, 43, 44, 45, 46, 64, 65, 66, 67, 68] (by decide +kernel) (by decide +kernel)
set_option maxRecDepth 20000 in
theorem gX5_write_X0_writeInto : GoodIn wsX5_write (wsV RX5 214 RX0 yX0_writeInto wsX0_writeInto) := goodIn_app (goodIn_of _ (by decide +kernel)) ggX5_write_X0_writeInto
set_option maxRecDepth 20000 in
theorem ggX5_write_X2_become : GoodIn wsX5_write wsX2_become := goodIn_r _ [50, 16, 51, 52, 53, 14, 54, 55, 36, 37, 38, 56, 18, 19, 20, 21, 43, 44, 45, 46, 64, 65] (by decide +kernel) (by decide +kernel)
set_option maxRecDepth 20000 in
theorem gX5_write_X2_become : GoodIn wsX5_write (wsV RX5 150 RX2 yX2_become wsX2_become) := goodIn_app (goodIn_of _ (by decide +kernel)) ggX5_write_X2_become
set_option maxRecDepth 20000 in
theorem ggX5_write_X2_size : GoodIn wsX5_write wsX2_size := goodIn_r _ [15, 16, 64, 65] (by decide +kernel) (by decide +kernel)
set_option maxRecDepth 20000 in
theorem gX5_write_X2_size : GoodIn wsX5_write (wsV RX5 60 RX2 yX2_size wsX2_size) := goodIn_app (goodIn_of _ (by decide +kernel)) ggX5_write_X2_size
theorem dX5_write_0 : decode cX5_write 0 = .ok (.aload_n 0, 1) := by decide +kernel
theorem dX5_write_1 : decode cX5_write 1 = .ok (.getfield 31, 3) := by decide +kernel
theorem dX5_write_4 : decode cX5_write 4 = .ok (.aload_n 0, 1) := by decide +kernel
theorem dX5_write_5 : decode cX5_write 5 = .ok (.getfield 14, 3) := by decide +kernel
theorem dX5_write_8 : decode cX5_write 8 = .ok (.invokevirtual 211, 3) := by decide +kernel
theorem dX5_write_11 : decode cX5_write 11 = .ok (.bipush 24, 2) := by decide +kernel
theorem dX5_write_13 : decode cX5_write 13 = .ok (.if_icmp .le 13, 3) := by decide +kernel
theorem dX5_write_16 : decode cX5_write 16 = .ok (.new 64, 3) := by decide +kernel
theorem dX5_write_19 : decode cX5_write 19 = .ok (.dup, 1) := by decide +kernel
theorem dX5_write_20 : decode cX5_write 20 = .ok (.ldc 76, 2) := by decide +kernel
theorem dX5_write_22 : decode cX5_write 22 = .ok (.invokespecial 68, 3) := by decide +kernel
theorem dX5_write_25 : decode cX5_write 25 = .ok (.athrow, 1) := by decide +kernel
theorem dX5_write_26 : decode cX5_write 26 = .ok (.aload_n 0, 1) := by decide +kernel
theorem dX5_write_27 : decode cX5_write 27 = .ok (.getfield 31, 3) := by decide +kernel
theorem dX5_write_30 : decode cX5_write 30 = .ok (.aload_n 0, 1) := by decide +kernel
theorem dX5_write_31 : decode cX5_write 31 = .ok (.getfield 14, 3) := by decide +kernel
theorem dX5_write_34 : decode cX5_write 34 = .ok (.aload_n 0, 1) := by decide +kernel
theorem dX5_write_35 : decode cX5_write 35 = .ok (.getfield 18, 3) := by decide +kernel
theorem dX5_write_38 : decode cX5_write 38 = .ok (.invokevirtual 214, 3) := by decide +kernel
theorem dX5_write_41 : decode cX5_write 41 = .ok (.aload_n 0, 1) := by decide +kernel
theorem dX5_write_42 : decode cX5_write 42 = .ok (.getfield 14, 3) := by decide +kernel
theorem dX5_write_45 : decode cX5_write 45 = .ok (.aload_n 0, 1) := by decide +kernel
theorem dX5_write_46 : decode cX5_write 46 = .ok (.getfield 18, 3) := by decide +kernel
theorem dX5_write_49 : decode cX5_write 49 = .ok (.invokevirtual 150, 3) := by decide +kernel
theorem dX5_write_52 : decode cX5_write 52 = .ok (.aload_n 0, 1) := by decide +kernel
theorem dX5_write_53 : decode cX5_write 53 = .ok (.getfield 14, 3) := by decide +kernel
theorem dX5_write_56 : decode cX5_write 56 = .ok (.invokevirtual 60, 3) := by decide +kernel
theorem dX5_write_59 : decode cX5_write 59 = .ok (.ireturn, 1) := by decide +kernel
set_option maxRecDepth 20000 in
theorem ggX5_read_X0_isOrderly : GoodIn wsX5_read wsX0_isOrderly := goodIn_r _ [12, 13, 14, 15, 16, 17, 18, 19, 20, 21, 22, 23, 24, 25, 26, 27, 28, 29, 30, 31, 32, 85, 86, 87, 88, 89] (by decide +kernel) (by decide +kernel)
set_option maxRecDepth 20000 in
theorem gX5_read_X0_isOrderly : GoodIn wsX5_read (wsV RX5 218 RX0 yX0_isOrderly wsX0_isOrderly) := goodIn_app (goodIn_of _ (by decide +kernel)) ggX5_read_X0_isOrderly
set_option maxRecDepth 20000 in
theorem ggX5_read_X0_readInto : GoodIn wsX5_read wsX0_readInto := goodIn_r _ [36, 37, 38, 39, 17, 40, 19, 41, 42, 43, 44, 45, 46, 47, 11, 48, 13, 49, 30, 31, 32, 20, 50, 51, 52, 53, 54, 55, 56, 57, 58, 59, 60, 61, 62, 63, 88, 89, 85, 86, 87] (by decide +kernel) (by decide +kernel)
set_option maxRecDepth 20000 in
theorem gX5_read_X0_readInto : GoodIn wsX5_read (wsV RX5 223 RX0 yX0_readInto wsX0_readInto) := goodIn_app (goodIn_of _ (by decide +kernel)) ggX5_read_X0_readInto
set_option maxRecDepth 20000 in
theorem ggX5_read_X2_become : GoodIn wsX5_read wsX2_become := goodIn_r _ [67, 19, 68, 69, 70, 17, 71, 72, 38, 39, 40, 73, 74, 75, 76, 20, 77, 54, 55, 56, 88, 89] (by decide +kernel) (by decide +kernel)
set_option maxRecDepth 20000 in
theorem gX5_read_X2_become : GoodIn wsX5_read (wsV RX5 150 RX2 yX2_become wsX2_become) := goodIn_app (goodIn_of _ (by decide +kernel)) ggX5_read_X2_become
set_option maxRecDepth 20000 in
theorem ggX5_read_X2_size : GoodIn wsX5_read wsX2_size := goodIn_r _ [44, 19, 88, 89] (by decide +kernel) (by decide +kernel)
set_option maxRecDepth 20000 in
theorem gX5_read_X2_size : GoodIn wsX5_read (wsV RX5 60 RX2 yX2_size wsX2_size) := goodIn_app (goodIn_of _ (by decide +kernel)) ggX5_read_X2_size
theorem dX5_read_0 : decode cX5_read 0 = .ok (.aload_n 0, 1) := by decide +kernel
theorem dX5_read_1 : decode cX5_read 1 = .ok (.getfield 31, 3) := by decide +kernel
theorem dX5_read_4 : decode cX5_read 4 = .ok (.invokevirtual 218, 3) := by decide +kernel
theorem dX5_read_7 : decode cX5_read 7 = .ok (.ifCond .ne 13, 3) := by decide +kernel
theorem dX5_read_10 : decode cX5_read 10 = .ok (.new 114, 3) := by decide +kernel
theorem dX5_read_13 : decode cX5_read 13 = .ok (.dup, 1) := by decide +kernel
theorem dX5_read_14 : decode cX5_read 14 = .ok (.ldc 221, 2) := by decide +kernel
theorem dX5_read_16 : decode cX5_read 16 = .ok (.invokespecial 118, 3) := by decide +kernel
theorem dX5_read_19 : decode cX5_read 19 = .ok (.athrow, 1) := by decide +kernel
theorem dX5_read_20 : decode cX5_read 20 = .ok (.aload_n 0, 1) := by decide +kernel
theorem dX5_read_21 : decode cX5_read 21 = .ok (.getfield 31, 3) := by decide +kernel
theorem dX5_read_24 : decode cX5_read 24 = .ok (.aload_n 0, 1) := by decide +kernel
theorem dX5_read_25 : decode cX5_read 25 = .ok (.getfield 14, 3) := by decide +kernel
theorem dX5_read_28 : decode cX5_read 28 = .ok (.aload_n 0, 1) := by decide +kernel
theorem dX5_read_29 : decode cX5_read 29 = .ok (.getfield 18, 3) := by decide +kernel
theorem dX5_read_32 : decode cX5_read 32 = .ok (.invokevirtual 223, 3) := by decide +kernel
theorem dX5_read_35 : decode cX5_read 35 = .ok (.ifCond .ne 13, 3) := by decide +kernel
theorem dX5_read_38 : decode cX5_read 38 = .ok (.new 91, 3) := by decide +kernel
theorem dX5_read_41 : decode cX5_read 41 = .ok (.dup, 1) := by decide +kernel
theorem dX5_read_42 : decode cX5_read 42 = .ok (.ldc 227, 2) := by decide +kernel
theorem dX5_read_44 : decode cX5_read 44 = .ok (.invokespecial 95, 3) := by decide +kernel
theorem dX5_read_47 : decode cX5_read 47 = .ok (.athrow, 1) := by decide +kernel
theorem dX5_read_48 : decode cX5_read 48 = .ok (.aload_n 0, 1) := by decide +kernel
theorem dX5_read_49 : decode cX5_read 49 = .ok (.getfield 14, 3) := by decide +kernel
theorem dX5_read_52 : decode cX5_read 52 = .ok (.aload_n 0, 1) := by decide +kernel
theorem dX5_read_53 : decode cX5_read 53 = .ok (.getfield 18, 3) := by decide +kernel
theorem dX5_read_56 : decode cX5_read 56 = .ok (.invokevirtual 150, 3) := by decide +kernel
theorem dX5_read_59 : decode cX5_read 59 = .ok (.aload_n 0, 1) := by decide +kernel
theorem dX5_read_60 : decode cX5_read 60 = .ok (.getfield 14, 3) := by decide +kernel
theorem dX5_read_63 : decode cX5_read 63 = .ok (.invokevirtual 60, 3) := by decide +kernel
theorem dX5_read_66 : decode cX5_read 66 = .ok (.ireturn, 1) := by decide +kernel
set_option maxRecDepth 20000 in
theorem ggX5_writeAll_X0_isOrderly : GoodIn wsX5_writeAll wsX0_isOrderly := goodIn_r _ [11, 12, 13, 14, 15, 16, 17, 18, 19, 20, 21, 22, 23, 24, 25, 26, 27, 28, 29, 30, 31, 117, 118, 119, 120, 121] (by decide +kernel) (by decide +kernel)
set_option maxRecDepth 20000 in
theorem gX5_writeAll_X0_isOrderly : GoodIn wsX5_writeAll (wsV RX5 218 RX0 yX0_isOrderly wsX0_isOrderly) := goodIn_app (goodIn_of _ (by decide +kernel)) ggX5_writeAll_X0_isOrderly
set_option maxRecDepth 20000 in
theorem ggX5_writeAll_X0_mostWritten : GoodIn wsX5_writeAll wsX0_mostWritten := goodIn_r _ [35, 36, 37, 38, 39, 40, 41, 42, 43, 44, 45, 46, 47, 48, 49, 50, 51, 52, 53, 54, 10, 55, 56, 57, 58, 16, 59, 18, 60, 61, 62, 63, 19, 64, 65, 66, 67, 12, 68, 69, 70, 71, 122, 123, 124, 125, 120, 121, 117, 118, 119] (by decide +kernel) (by decide +kernel)
set_option maxRecDepth 20000 in
theorem gX5_writeAll_X0_mostWritten : GoodIn wsX5_writeAll (wsV RX5 229 RX0 yX0_mostWritten wsX0_mostWritten) := goodIn_app (goodIn_of _ (by decide +kernel)) ggX5_writeAll_X0_mostWritten
set_option maxRecDepth 20000 in
theorem ggX5_writeAll_X0_writeWords : GoodIn wsX5_writeAll wsX0_writeWords := goodIn_r _ [75, 40, 41, 42, 43, 44, 45, 46, 47, 48, 49, 50, 51, 76, 77, 78, 10, 79, 80, 68, 81, 82, 83, 84, 85, 86, 87, 16, 88, 18, 56, 57, 58, 59, 60, 61, 62, 63, 19, 64, 65, 66, 67, 12, 69, 70, 71, 89, 90, 91, 92, 93, 94, 95, 96, 122, 123, 124, 125, 117, 118, 119, 120, 121] (by decide +kernel) (by decide +kernel)
set_option maxRecDepth 20000 in
theorem gX5_writeAll_X0_writeWords : GoodIn wsX5_writeAll (wsV RX5 235 RX0 yX0_writeWords wsX0_writeWords) := goodIn_app (goodIn_of _ (by decide +kernel)) ggX5_writeAll_X0_writeWords
set_option maxRecDepth 20000 in
theorem ggX5_writeAll_X4_size : GoodIn wsX5_writeAll wsX4_size := goodIn_r _ [44, 45, 122, 123, 124, 125] (by decide +kernel) (by decide +kernel)
set_option maxRecDepth 20000 in
theorem gX5_writeAll_X4_size : GoodIn wsX5_writeAll (wsV RX5 123 RX4 yX4_size wsX4_size) := goodIn_app (goodIn_of _ (by decide +kernel)) ggX5_writeAll_X4_size
set_option maxRecDepth 20000 in
theorem ggX5_writeAll_X4_rowAt : GoodIn wsX5_writeAll wsX4_rowAt := goodIn_r _ [49, 45, 50, 51, 122, 123, 124, 125] (by decide +kernel) (by decide +kernel)
set_option maxRecDepth 20000 in
theorem gX5_writeAll_X4_rowAt : GoodIn wsX5_writeAll (wsV RX5 146 RX4 yX4_rowAt wsX4_rowAt) := goodIn_app (goodIn_of _ (by decide +kernel)) ggX5_writeAll_X4_rowAt
set_option maxRecDepth 20000 in
theorem ggX5_writeAll_X0_writtenAt : GoodIn wsX5_writeAll wsX0_writtenAt := goodIn_r _ [79, 80, 68, 117, 118, 119] (by decide +kernel) (by decide +kernel)
set_option maxRecDepth 20000 in
theorem gX5_writeAll_X0_writtenAt : GoodIn wsX5_writeAll (wsV RX5 239 RX0 yX0_writtenAt wsX0_writtenAt) := goodIn_app (goodIn_of _ (by decide +kernel)) ggX5_writeAll_X0_writtenAt
set_option maxRecDepth 20000 in
theorem ggX5_writeAll_X2_size : GoodIn wsX5_writeAll wsX2_size := goodIn_r _ [59, 18, 120, 121] (by decide +kernel) (by decide +kernel)
set_option maxRecDepth 20000 in
theorem gX5_writeAll_X2_size : GoodIn wsX5_writeAll (wsV RX5 60 RX2 yX2_size wsX2_size) := goodIn_app (goodIn_of _ (by decide +kernel)) ggX5_writeAll_X2_size
set_option maxRecDepth 20000 in
theorem ggX5_writeAll_X2_become : GoodIn wsX5_writeAll wsX2_become := goodIn_r _ [104, 18, 105, 106, 107, 16, 108, 109, 86, 87, 88, 110, 61, 62, 63, 19, 93, 94, 95, 96, 120, 121] (by decide +kernel) (by decide +kernel)
set_option maxRecDepth 20000 in
theorem gX5_writeAll_X2_become : GoodIn wsX5_writeAll (wsV RX5 150 RX2 yX2_become wsX2_become) := goodIn_app (goodIn_of _ (by decide +kernel)) ggX5_writeAll_X2_become
theorem dX5_writeAll_0 : decode cX5_writeAll 0 = .ok (.aload_n 0, 1) := by decide +kernel
theorem dX5_writeAll_1 : decode cX5_writeAll 1 = .ok (.getfield 31, 3) := by decide +kernel
theorem dX5_writeAll_4 : decode cX5_writeAll 4 = .ok (.invokevirtual 218, 3) := by decide +kernel
theorem dX5_writeAll_7 : decode cX5_writeAll 7 = .ok (.ifCond .ne 13, 3) := by decide +kernel
theorem dX5_writeAll_10 : decode cX5_writeAll 10 = .ok (.new 114, 3) := by decide +kernel
theorem dX5_writeAll_13 : decode cX5_writeAll 13 = .ok (.dup, 1) := by decide +kernel
theorem dX5_writeAll_14 : decode cX5_writeAll 14 = .ok (.ldc 221, 2) := by decide +kernel
theorem dX5_writeAll_16 : decode cX5_writeAll 16 = .ok (.invokespecial 118, 3) := by decide +kernel
theorem dX5_writeAll_19 : decode cX5_writeAll 19 = .ok (.athrow, 1) := by decide +kernel
theorem dX5_writeAll_20 : decode cX5_writeAll 20 = .ok (.aload_n 0, 1) := by decide +kernel
theorem dX5_writeAll_21 : decode cX5_writeAll 21 = .ok (.getfield 31, 3) := by decide +kernel
theorem dX5_writeAll_24 : decode cX5_writeAll 24 = .ok (.aload_n 0, 1) := by decide +kernel
theorem dX5_writeAll_25 : decode cX5_writeAll 25 = .ok (.getfield 24, 3) := by decide +kernel
theorem dX5_writeAll_28 : decode cX5_writeAll 28 = .ok (.invokevirtual 229, 3) := by decide +kernel
theorem dX5_writeAll_31 : decode cX5_writeAll 31 = .ok (.bipush 10, 2) := by decide +kernel
theorem dX5_writeAll_33 : decode cX5_writeAll 33 = .ok (.if_icmp .le 13, 3) := by decide +kernel
theorem dX5_writeAll_36 : decode cX5_writeAll 36 = .ok (.new 64, 3) := by decide +kernel
theorem dX5_writeAll_39 : decode cX5_writeAll 39 = .ok (.dup, 1) := by decide +kernel
theorem dX5_writeAll_40 : decode cX5_writeAll 40 = .ok (.ldc 233, 2) := by decide +kernel
theorem dX5_writeAll_42 : decode cX5_writeAll 42 = .ok (.invokespecial 68, 3) := by decide +kernel
theorem dX5_writeAll_45 : decode cX5_writeAll 45 = .ok (.athrow, 1) := by decide +kernel
theorem dX5_writeAll_46 : decode cX5_writeAll 46 = .ok (.aload_n 0, 1) := by decide +kernel
theorem dX5_writeAll_47 : decode cX5_writeAll 47 = .ok (.getfield 31, 3) := by decide +kernel
theorem dX5_writeAll_50 : decode cX5_writeAll 50 = .ok (.aload_n 0, 1) := by decide +kernel
theorem dX5_writeAll_51 : decode cX5_writeAll 51 = .ok (.getfield 24, 3) := by decide +kernel
theorem dX5_writeAll_54 : decode cX5_writeAll 54 = .ok (.invokevirtual 235, 3) := by decide +kernel
theorem dX5_writeAll_57 : decode cX5_writeAll 57 = .ok (.iconst 0, 1) := by decide +kernel
theorem dX5_writeAll_58 : decode cX5_writeAll 58 = .ok (.istore_n 1, 1) := by decide +kernel
theorem dX5_writeAll_59 : decode cX5_writeAll 59 = .ok (.iconst 0, 1) := by decide +kernel
theorem dX5_writeAll_60 : decode cX5_writeAll 60 = .ok (.istore_n 2, 1) := by decide +kernel
theorem dX5_writeAll_61 : decode cX5_writeAll 61 = .ok (.iload_n 2, 1) := by decide +kernel
theorem dX5_writeAll_62 : decode cX5_writeAll 62 = .ok (.aload_n 0, 1) := by decide +kernel
theorem dX5_writeAll_63 : decode cX5_writeAll 63 = .ok (.getfield 24, 3) := by decide +kernel
theorem dX5_writeAll_66 : decode cX5_writeAll 66 = .ok (.invokevirtual 123, 3) := by decide +kernel
theorem dX5_writeAll_69 : decode cX5_writeAll 69 = .ok (.if_icmp .ge 49, 3) := by decide +kernel
theorem dX5_writeAll_72 : decode cX5_writeAll 72 = .ok (.aload_n 0, 1) := by decide +kernel
theorem dX5_writeAll_73 : decode cX5_writeAll 73 = .ok (.getfield 24, 3) := by decide +kernel
theorem dX5_writeAll_76 : decode cX5_writeAll 76 = .ok (.iload_n 2, 1) := by decide +kernel
theorem dX5_writeAll_77 : decode cX5_writeAll 77 = .ok (.invokevirtual 146, 3) := by decide +kernel
theorem dX5_writeAll_80 : decode cX5_writeAll 80 = .ok (.astore_n 3, 1) := by decide +kernel
theorem dX5_writeAll_81 : decode cX5_writeAll 81 = .ok (.aload_n 0, 1) := by decide +kernel
theorem dX5_writeAll_82 : decode cX5_writeAll 82 = .ok (.getfield 31, 3) := by decide +kernel
theorem dX5_writeAll_85 : decode cX5_writeAll 85 = .ok (.iload_n 2, 1) := by decide +kernel
theorem dX5_writeAll_86 : decode cX5_writeAll 86 = .ok (.invokevirtual 239, 3) := by decide +kernel
theorem dX5_writeAll_89 : decode cX5_writeAll 89 = .ok (.astore 4, 2) := by decide +kernel
theorem dX5_writeAll_91 : decode cX5_writeAll 91 = .ok (.aload 4, 2) := by decide +kernel
theorem dX5_writeAll_93 : decode cX5_writeAll 93 = .ok (.invokevirtual 60, 3) := by decide +kernel
theorem dX5_writeAll_96 : decode cX5_writeAll 96 = .ok (.aload_n 3, 1) := by decide +kernel
theorem dX5_writeAll_97 : decode cX5_writeAll 97 = .ok (.invokevirtual 60, 3) := by decide +kernel
theorem dX5_writeAll_100 : decode cX5_writeAll 100 = .ok (.if_icmp .le 6, 3) := by decide +kernel
theorem dX5_writeAll_103 : decode cX5_writeAll 103 = .ok (.iinc 1 1, 3) := by decide +kernel
theorem dX5_writeAll_106 : decode cX5_writeAll 106 = .ok (.aload_n 3, 1) := by decide +kernel
theorem dX5_writeAll_107 : decode cX5_writeAll 107 = .ok (.aload 4, 2) := by decide +kernel
theorem dX5_writeAll_109 : decode cX5_writeAll 109 = .ok (.invokevirtual 150, 3) := by decide +kernel
theorem dX5_writeAll_112 : decode cX5_writeAll 112 = .ok (.iinc 2 1, 3) := by decide +kernel
theorem dX5_writeAll_115 : decode cX5_writeAll 115 = .ok (.goto (-54), 3) := by decide +kernel
theorem dX5_writeAll_118 : decode cX5_writeAll 118 = .ok (.iload_n 1, 1) := by decide +kernel
theorem dX5_writeAll_119 : decode cX5_writeAll 119 = .ok (.ireturn, 1) := by decide +kernel
set_option maxRecDepth 20000 in
theorem ggX5_isTrue_X1_look : GoodIn wsX5_isTrue wsX1_look := goodIn_r _ [10, 11, 12, 13, 14, 15, 16, 17, 18, 19, 20, 21, 22, 23, 24, 25, 26, 27, 28, 29, 30, 31, 32, 33, 34, 35, 36, 37, 38, 39, 230, 231, 232, 233, 234, 235, 236, 237, 238, 239] (by decide +kernel) (by decide +kernel)
set_option maxRecDepth 20000 in
theorem gX5_isTrue_X1_look : GoodIn wsX5_isTrue (wsV RX5 186 RX1 yX1_look wsX1_look) := goodIn_app (goodIn_of _ (by decide +kernel)) ggX5_isTrue_X1_look
set_option maxRecDepth 20000 in
theorem ggX5_isTrue_X3_beginningsHold : GoodIn wsX5_isTrue wsX3_beginningsHold := goodIn_r _ [44, 45, 12, 13, 14, 46, 47, 18, 19, 20, 21, 22, 48, 49, 50, 51, 52, 53, 54, 55, 56, 57, 58, 59, 39, 60, 61, 62, 63, 64, 65, 66, 43, 67, 68, 69, 70, 26, 71, 28, 72, 30, 31, 32, 33, 34, 73, 74, 75, 76, 77, 78, 79, 80, 81, 82, 83, 84, 85, 86, 87, 88, 89, 36, 37, 38, 90, 24, 25, 27, 91, 92, 240, 241, 234, 235, 236, 237, 238, 239] (by decide +kernel) (by decide +kernel)
set_option maxRecDepth 20000 in
theorem gX5_isTrue_X3_beginningsHold : GoodIn wsX5_isTrue (wsV RX5 242 RX3 yX3_beginningsHold wsX3_beginningsHold) := goodIn_app (goodIn_of _ (by decide +kernel)) ggX5_isTrue_X3_beginningsHold
set_option maxRecDepth 20000 in
theorem ggX5_isTrue_X3_longestHolds : GoodIn wsX5_isTrue wsX3_longestHolds := goodIn_r _ [96, 46, 47, 18, 19, 20, 21, 22, 48, 49, 50, 51, 52, 53, 54, 55, 56, 57, 58, 59, 39, 60, 61, 62, 63, 97, 98, 99, 26, 100, 28, 101, 102, 13, 103, 72, 30, 31, 32, 33, 34, 104, 36, 37, 38, 105, 106, 107, 108, 43, 109, 110, 111, 112, 113, 114, 73, 74, 75, 76, 77, 78, 79, 80, 91, 92, 86, 87, 88, 89, 115, 240, 241, 234, 235, 236, 237, 238, 239] (by decide +kernel) (by decide +kernel)
set_option maxRecDepth 20000 in
theorem gX5_isTrue_X3_longestHolds : GoodIn wsX5_isTrue (wsV RX5 246 RX3 yX3_longestHolds wsX3_longestHolds) := goodIn_app (goodIn_of _ (by decide +kernel)) ggX5_isTrue_X3_longestHolds
set_option maxRecDepth 20000 in
theorem ggX5_isTrue_X3_commonHolds : GoodIn wsX5_isTrue wsX3_commonHolds := goodIn_r _ [119, 120, 102, 13, 103, 111, 112, 113, 26, 114, 28, 72, 30, 31, 32, 33, 34, 73, 74, 75, 20, 76, 22, 39, 77, 78, 79, 80, 91, 115, 68, 69, 70, 71, 121, 122, 123, 124, 101, 125, 236, 237, 238, 239, 234, 235] (by decide +kernel) (by decide +kernel)
set_option maxRecDepth 20000 in
theorem gX5_isTrue_X3_commonHolds : GoodIn wsX5_isTrue (wsV RX5 249 RX3 yX3_commonHolds wsX3_commonHolds) := goodIn_app (goodIn_of _ (by decide +kernel)) ggX5_isTrue_X3_commonHolds
set_option maxRecDepth 20000 in
theorem ggX5_isTrue_X3_twinsHold : GoodIn wsX5_isTrue wsX3_twinsHold := goodIn_r _ [129, 120, 102, 13, 103, 90, 24, 25, 26, 27, 28, 91, 30, 31, 32, 33, 34, 115, 78, 79, 20, 80, 22, 39, 130, 131, 132, 133, 101, 72, 125, 236, 237, 238, 239, 234, 235] (by decide +kernel) (by decide +kernel)
set_option maxRecDepth 20000 in
theorem gX5_isTrue_X3_twinsHold : GoodIn wsX5_isTrue (wsV RX5 252 RX3 yX3_twinsHold wsX3_twinsHold) := goodIn_app (goodIn_of _ (by decide +kernel)) ggX5_isTrue_X3_twinsHold
set_option maxRecDepth 20000 in
theorem ggX5_isTrue_X3_cutsHold : GoodIn wsX5_isTrue wsX3_cutsHold := goodIn_r _ [137, 47, 18, 19, 20, 21, 22, 138, 139, 140, 9, 141, 15, 16, 142, 143, 144, 145, 146, 147, 234, 235, 230, 231, 232, 233] (by decide +kernel) (by decide +kernel)
set_option maxRecDepth 20000 in
theorem gX5_isTrue_X3_cutsHold : GoodIn wsX5_isTrue (wsV RX5 256 RX3 yX3_cutsHold wsX3_cutsHold) := goodIn_app (goodIn_of _ (by decide +kernel)) ggX5_isTrue_X3_cutsHold
set_option maxRecDepth 20000 in
theorem ggX5_isTrue_X3_fewestHolds : GoodIn wsX5_isTrue wsX3_fewestHolds := goodIn_r _ [151, 152, 153, 154, 9, 155, 156, 15, 147, 139, 140, 141, 16, 157, 158, 159, 11, 12, 13, 14, 160, 161, 162, 163, 164, 165, 166, 167, 168, 169, 170, 43, 171, 46, 90, 24, 25, 26, 27, 28, 91, 30, 31, 32, 33, 34, 47, 18, 19, 20, 21, 22, 48, 49, 50, 51, 52, 53, 54, 55, 56, 57, 58, 59, 39, 60, 61, 62, 63, 172, 173, 174, 175, 176, 69, 70, 71, 72, 73, 74, 75, 76, 77, 78, 79, 80, 230, 231, 232, 233, 240, 241, 236, 237, 238, 239, 234, 235] (by decide +kernel) (by decide +kernel)
set_option maxRecDepth 20000 in
theorem gX5_isTrue_X3_fewestHolds : GoodIn wsX5_isTrue (wsV RX5 260 RX3 yX3_fewestHolds wsX3_fewestHolds) := goodIn_app (goodIn_of _ (by decide +kernel)) ggX5_isTrue_X3_fewestHolds
set_option maxRecDepth 20000 in
theorem ggX5_isTrue_X3_codesHold : GoodIn wsX5_isTrue wsX3_codesHold := goodIn_r _ [180, 181, 182, 183, 184, 185, 186, 187, 74, 75, 20, 76, 22, 39, 77, 78, 79, 80, 188, 86, 87, 88, 89, 36, 37, 38, 189, 190, 191, 192, 193, 24, 25, 26, 27, 28, 194, 30, 31, 32, 33, 34, 195, 196, 197, 198, 199, 200, 201, 202, 203, 204, 205, 53, 54, 55, 206, 18, 19, 21, 207, 57, 58, 59, 208, 209, 210, 211, 212, 213, 214, 215, 216, 217, 218, 60, 61, 62, 63, 90, 219, 220, 43, 221, 222, 223, 92, 91, 242, 243, 244, 234, 235, 236, 237, 238, 239] (by decide +kernel) (by decide +kernel)
set_option maxRecDepth 20000 in
theorem gX5_isTrue_X3_codesHold : GoodIn wsX5_isTrue (wsV RX5 264 RX3 yX3_codesHold wsX3_codesHold) := goodIn_app (goodIn_of _ (by decide +kernel)) ggX5_isTrue_X3_codesHold
theorem dX5_isTrue_0 : decode cX5_isTrue 0 = .ok (.aload_n 0, 1) := by decide +kernel
theorem dX5_isTrue_1 : decode cX5_isTrue 1 = .ok (.getfield 38, 3) := by decide +kernel
theorem dX5_isTrue_4 : decode cX5_isTrue 4 = .ok (.aload_n 0, 1) := by decide +kernel
theorem dX5_isTrue_5 : decode cX5_isTrue 5 = .ok (.getfield 14, 3) := by decide +kernel
theorem dX5_isTrue_8 : decode cX5_isTrue 8 = .ok (.aload_n 0, 1) := by decide +kernel
theorem dX5_isTrue_9 : decode cX5_isTrue 9 = .ok (.getfield 24, 3) := by decide +kernel
theorem dX5_isTrue_12 : decode cX5_isTrue 12 = .ok (.invokevirtual 186, 3) := by decide +kernel
theorem dX5_isTrue_15 : decode cX5_isTrue 15 = .ok (.aload_n 0, 1) := by decide +kernel
theorem dX5_isTrue_16 : decode cX5_isTrue 16 = .ok (.getfield 45, 3) := by decide +kernel
theorem dX5_isTrue_19 : decode cX5_isTrue 19 = .ok (.aload_n 0, 1) := by decide +kernel
theorem dX5_isTrue_20 : decode cX5_isTrue 20 = .ok (.getfield 14, 3) := by decide +kernel
theorem dX5_isTrue_23 : decode cX5_isTrue 23 = .ok (.aload_n 0, 1) := by decide +kernel
theorem dX5_isTrue_24 : decode cX5_isTrue 24 = .ok (.getfield 24, 3) := by decide +kernel
theorem dX5_isTrue_27 : decode cX5_isTrue 27 = .ok (.invokevirtual 242, 3) := by decide +kernel
theorem dX5_isTrue_30 : decode cX5_isTrue 30 = .ok (.ifCond .eq 111, 3) := by decide +kernel
theorem dX5_isTrue_33 : decode cX5_isTrue 33 = .ok (.aload_n 0, 1) := by decide +kernel
theorem dX5_isTrue_34 : decode cX5_isTrue 34 = .ok (.getfield 45, 3) := by decide +kernel
theorem dX5_isTrue_37 : decode cX5_isTrue 37 = .ok (.aload_n 0, 1) := by decide +kernel
theorem dX5_isTrue_38 : decode cX5_isTrue 38 = .ok (.getfield 14, 3) := by decide +kernel
theorem dX5_isTrue_41 : decode cX5_isTrue 41 = .ok (.aload_n 0, 1) := by decide +kernel
theorem dX5_isTrue_42 : decode cX5_isTrue 42 = .ok (.getfield 24, 3) := by decide +kernel
theorem dX5_isTrue_45 : decode cX5_isTrue 45 = .ok (.invokevirtual 246, 3) := by decide +kernel
theorem dX5_isTrue_48 : decode cX5_isTrue 48 = .ok (.ifCond .eq 93, 3) := by decide +kernel
theorem dX5_isTrue_51 : decode cX5_isTrue 51 = .ok (.aload_n 0, 1) := by decide +kernel
theorem dX5_isTrue_52 : decode cX5_isTrue 52 = .ok (.getfield 45, 3) := by decide +kernel
theorem dX5_isTrue_55 : decode cX5_isTrue 55 = .ok (.aload_n 0, 1) := by decide +kernel
theorem dX5_isTrue_56 : decode cX5_isTrue 56 = .ok (.getfield 14, 3) := by decide +kernel
theorem dX5_isTrue_59 : decode cX5_isTrue 59 = .ok (.aload_n 0, 1) := by decide +kernel
theorem dX5_isTrue_60 : decode cX5_isTrue 60 = .ok (.getfield 24, 3) := by decide +kernel
theorem dX5_isTrue_63 : decode cX5_isTrue 63 = .ok (.invokevirtual 249, 3) := by decide +kernel
theorem dX5_isTrue_66 : decode cX5_isTrue 66 = .ok (.ifCond .eq 75, 3) := by decide +kernel
theorem dX5_isTrue_69 : decode cX5_isTrue 69 = .ok (.aload_n 0, 1) := by decide +kernel
theorem dX5_isTrue_70 : decode cX5_isTrue 70 = .ok (.getfield 45, 3) := by decide +kernel
theorem dX5_isTrue_73 : decode cX5_isTrue 73 = .ok (.aload_n 0, 1) := by decide +kernel
theorem dX5_isTrue_74 : decode cX5_isTrue 74 = .ok (.getfield 24, 3) := by decide +kernel
theorem dX5_isTrue_77 : decode cX5_isTrue 77 = .ok (.invokevirtual 252, 3) := by decide +kernel
theorem dX5_isTrue_80 : decode cX5_isTrue 80 = .ok (.ifCond .eq 61, 3) := by decide +kernel
theorem dX5_isTrue_83 : decode cX5_isTrue 83 = .ok (.aload_n 0, 1) := by decide +kernel
theorem dX5_isTrue_84 : decode cX5_isTrue 84 = .ok (.getfield 45, 3) := by decide +kernel
theorem dX5_isTrue_87 : decode cX5_isTrue 87 = .ok (.aload_n 0, 1) := by decide +kernel
theorem dX5_isTrue_88 : decode cX5_isTrue 88 = .ok (.getfield 14, 3) := by decide +kernel
theorem dX5_isTrue_91 : decode cX5_isTrue 91 = .ok (.aload_n 0, 1) := by decide +kernel
theorem dX5_isTrue_92 : decode cX5_isTrue 92 = .ok (.getfield 38, 3) := by decide +kernel
theorem dX5_isTrue_95 : decode cX5_isTrue 95 = .ok (.invokevirtual 256, 3) := by decide +kernel
theorem dX5_isTrue_98 : decode cX5_isTrue 98 = .ok (.ifCond .eq 43, 3) := by decide +kernel
theorem dX5_isTrue_101 : decode cX5_isTrue 101 = .ok (.aload_n 0, 1) := by decide +kernel
theorem dX5_isTrue_102 : decode cX5_isTrue 102 = .ok (.getfield 45, 3) := by decide +kernel
theorem dX5_isTrue_105 : decode cX5_isTrue 105 = .ok (.aload_n 0, 1) := by decide +kernel
theorem dX5_isTrue_106 : decode cX5_isTrue 106 = .ok (.getfield 24, 3) := by decide +kernel
theorem dX5_isTrue_109 : decode cX5_isTrue 109 = .ok (.aload_n 0, 1) := by decide +kernel
theorem dX5_isTrue_110 : decode cX5_isTrue 110 = .ok (.getfield 38, 3) := by decide +kernel
theorem dX5_isTrue_113 : decode cX5_isTrue 113 = .ok (.invokevirtual 260, 3) := by decide +kernel
theorem dX5_isTrue_116 : decode cX5_isTrue 116 = .ok (.ifCond .eq 25, 3) := by decide +kernel
theorem dX5_isTrue_119 : decode cX5_isTrue 119 = .ok (.aload_n 0, 1) := by decide +kernel
theorem dX5_isTrue_120 : decode cX5_isTrue 120 = .ok (.getfield 45, 3) := by decide +kernel
theorem dX5_isTrue_123 : decode cX5_isTrue 123 = .ok (.aload_n 0, 1) := by decide +kernel
theorem dX5_isTrue_124 : decode cX5_isTrue 124 = .ok (.getfield 24, 3) := by decide +kernel
theorem dX5_isTrue_127 : decode cX5_isTrue 127 = .ok (.aload_n 0, 1) := by decide +kernel
theorem dX5_isTrue_128 : decode cX5_isTrue 128 = .ok (.getfield 31, 3) := by decide +kernel
theorem dX5_isTrue_131 : decode cX5_isTrue 131 = .ok (.invokevirtual 264, 3) := by decide +kernel
theorem dX5_isTrue_134 : decode cX5_isTrue 134 = .ok (.ifCond .eq 7, 3) := by decide +kernel
theorem dX5_isTrue_137 : decode cX5_isTrue 137 = .ok (.iconst 1, 1) := by decide +kernel
theorem dX5_isTrue_138 : decode cX5_isTrue 138 = .ok (.goto 4, 3) := by decide +kernel
theorem dX5_isTrue_141 : decode cX5_isTrue 141 = .ok (.iconst 0, 1) := by decide +kernel
theorem dX5_isTrue_142 : decode cX5_isTrue 142 = .ok (.ireturn, 1) := by decide +kernel
set_option maxRecDepth 20000 in
theorem ggX5_checksum_X2_addTo : GoodIn wsX5_checksum wsX2_addTo := goodIn_r _ [10, 11, 12, 13, 54, 55] (by decide +kernel) (by decide +kernel)
set_option maxRecDepth 20000 in
theorem gX5_checksum_X2_addTo : GoodIn wsX5_checksum (wsV RX5 270 RX2 yX2_addTo wsX2_addTo) := goodIn_app (goodIn_of _ (by decide +kernel)) ggX5_checksum_X2_addTo
set_option maxRecDepth 20000 in
theorem ggX5_checksum_X4_size : GoodIn wsX5_checksum wsX4_size := goodIn_r _ [18, 19, 56, 57, 58, 59] (by decide +kernel) (by decide +kernel)
set_option maxRecDepth 20000 in
theorem gX5_checksum_X4_size : GoodIn wsX5_checksum (wsV RX5 123 RX4 yX4_size wsX4_size) := goodIn_app (goodIn_of _ (by decide +kernel)) ggX5_checksum_X4_size
set_option maxRecDepth 20000 in
theorem ggX5_checksum_X4_rowAt : GoodIn wsX5_checksum wsX4_rowAt := goodIn_r _ [23, 19, 24, 25, 56, 57, 58, 59] (by decide +kernel) (by decide +kernel)
set_option maxRecDepth 20000 in
theorem gX5_checksum_X4_rowAt : GoodIn wsX5_checksum (wsV RX5 146 RX4 yX4_rowAt wsX4_rowAt) := goodIn_app (goodIn_of _ (by decide +kernel)) ggX5_checksum_X4_rowAt
set_option maxRecDepth 20000 in
theorem ggX5_checksum_X4_numberAt : GoodIn wsX5_checksum wsX4_numberAt := goodIn_r _ [29, 19, 30, 56, 57, 58, 59] (by decide +kernel) (by decide +kernel)
set_option maxRecDepth 20000 in
theorem gX5_checksum_X4_numberAt : GoodIn wsX5_checksum (wsV RX5 129 RX4 yX4_numberAt wsX4_numberAt) := goodIn_app (goodIn_of _ (by decide +kernel)) ggX5_checksum_X4_numberAt
set_option maxRecDepth 20000 in
theorem ggX5_checksum_X5_signOf : GoodIn wsX5_checksum wsX5_signOf := goodIn_r _ [34] (by decide +kernel) (by decide +kernel)
set_option maxRecDepth 20000 in
theorem gX5_checksum_X5_signOf : GoodIn wsX5_checksum (va_wsS RX5 78 yX5_signOf wsX5_signOf) := goodIn_app (goodIn_of _ (by decide +kernel)) ggX5_checksum_X5_signOf
set_option maxRecDepth 20000 in
theorem ggX5_checksum_X0_codeOf : GoodIn wsX5_checksum wsX0_codeOf := goodIn_r _ [39, 40, 41, 42, 33, 43, 60, 61, 62] (by decide +kernel) (by decide +kernel)
set_option maxRecDepth 20000 in
theorem gX5_checksum_X0_codeOf : GoodIn wsX5_checksum (wsV RX5 207 RX0 yX0_codeOf wsX0_codeOf) := goodIn_app (goodIn_of _ (by decide +kernel)) ggX5_checksum_X0_codeOf
set_option maxRecDepth 20000 in
theorem ggX5_checksum_X2_size : GoodIn wsX5_checksum wsX2_size := goodIn_r _ [47, 11, 54, 55] (by decide +kernel) (by decide +kernel)
set_option maxRecDepth 20000 in
theorem gX5_checksum_X2_size : GoodIn wsX5_checksum (wsV RX5 60 RX2 yX2_size wsX2_size) := goodIn_app (goodIn_of _ (by decide +kernel)) ggX5_checksum_X2_size
theorem dX5_checksum_0 : decode cX5_checksum 0 = .ok (.aload_n 0, 1) := by decide +kernel
theorem dX5_checksum_1 : decode cX5_checksum 1 = .ok (.getfield 14, 3) := by decide +kernel
theorem dX5_checksum_4 : decode cX5_checksum 4 = .ok (.ldc2_w 268, 3) := by decide +kernel
theorem dX5_checksum_7 : decode cX5_checksum 7 = .ok (.invokevirtual 270, 3) := by decide +kernel
theorem dX5_checksum_10 : decode cX5_checksum 10 = .ok (.lstore_n 1, 1) := by decide +kernel
theorem dX5_checksum_11 : decode cX5_checksum 11 = .ok (.iconst 0, 1) := by decide +kernel
theorem dX5_checksum_12 : decode cX5_checksum 12 = .ok (.istore_n 3, 1) := by decide +kernel
theorem dX5_checksum_13 : decode cX5_checksum 13 = .ok (.iload_n 3, 1) := by decide +kernel
theorem dX5_checksum_14 : decode cX5_checksum 14 = .ok (.aload_n 0, 1) := by decide +kernel
theorem dX5_checksum_15 : decode cX5_checksum 15 = .ok (.getfield 24, 3) := by decide +kernel
theorem dX5_checksum_18 : decode cX5_checksum 18 = .ok (.invokevirtual 123, 3) := by decide +kernel
theorem dX5_checksum_21 : decode cX5_checksum 21 = .ok (.if_icmp .ge 36, 3) := by decide +kernel
theorem dX5_checksum_24 : decode cX5_checksum 24 = .ok (.ldc2_w 274, 3) := by decide +kernel
theorem dX5_checksum_27 : decode cX5_checksum 27 = .ok (.aload_n 0, 1) := by decide +kernel
theorem dX5_checksum_28 : decode cX5_checksum 28 = .ok (.getfield 24, 3) := by decide +kernel
theorem dX5_checksum_31 : decode cX5_checksum 31 = .ok (.iload_n 3, 1) := by decide +kernel
theorem dX5_checksum_32 : decode cX5_checksum 32 = .ok (.invokevirtual 146, 3) := by decide +kernel
theorem dX5_checksum_35 : decode cX5_checksum 35 = .ok (.lload_n 1, 1) := by decide +kernel
theorem dX5_checksum_36 : decode cX5_checksum 36 = .ok (.invokevirtual 270, 3) := by decide +kernel
theorem dX5_checksum_39 : decode cX5_checksum 39 = .ok (.lmul, 1) := by decide +kernel
theorem dX5_checksum_40 : decode cX5_checksum 40 = .ok (.aload_n 0, 1) := by decide +kernel
theorem dX5_checksum_41 : decode cX5_checksum 41 = .ok (.getfield 24, 3) := by decide +kernel
theorem dX5_checksum_44 : decode cX5_checksum 44 = .ok (.iload_n 3, 1) := by decide +kernel
theorem dX5_checksum_45 : decode cX5_checksum 45 = .ok (.invokevirtual 129, 3) := by decide +kernel
theorem dX5_checksum_48 : decode cX5_checksum 48 = .ok (.i2l, 1) := by decide +kernel
theorem dX5_checksum_49 : decode cX5_checksum 49 = .ok (.ladd, 1) := by decide +kernel
theorem dX5_checksum_50 : decode cX5_checksum 50 = .ok (.lstore_n 1, 1) := by decide +kernel
theorem dX5_checksum_51 : decode cX5_checksum 51 = .ok (.iinc 3 1, 3) := by decide +kernel
theorem dX5_checksum_54 : decode cX5_checksum 54 = .ok (.goto (-41), 3) := by decide +kernel
theorem dX5_checksum_57 : decode cX5_checksum 57 = .ok (.iconst 0, 1) := by decide +kernel
theorem dX5_checksum_58 : decode cX5_checksum 58 = .ok (.istore_n 3, 1) := by decide +kernel
theorem dX5_checksum_59 : decode cX5_checksum 59 = .ok (.iload_n 3, 1) := by decide +kernel
theorem dX5_checksum_60 : decode cX5_checksum 60 = .ok (.bipush 6, 2) := by decide +kernel
theorem dX5_checksum_62 : decode cX5_checksum 62 = .ok (.if_icmp .ge 40, 3) := by decide +kernel
theorem dX5_checksum_65 : decode cX5_checksum 65 = .ok (.aload_n 0, 1) := by decide +kernel
theorem dX5_checksum_66 : decode cX5_checksum 66 = .ok (.getfield 31, 3) := by decide +kernel
theorem dX5_checksum_69 : decode cX5_checksum 69 = .ok (.iload_n 3, 1) := by decide +kernel
theorem dX5_checksum_70 : decode cX5_checksum 70 = .ok (.invokestatic 78, 3) := by decide +kernel
theorem dX5_checksum_73 : decode cX5_checksum 73 = .ok (.invokevirtual 207, 3) := by decide +kernel
theorem dX5_checksum_76 : decode cX5_checksum 76 = .ok (.astore 4, 2) := by decide +kernel
theorem dX5_checksum_78 : decode cX5_checksum 78 = .ok (.aload 4, 2) := by decide +kernel
theorem dX5_checksum_80 : decode cX5_checksum 80 = .ok (.ldc2_w 274, 3) := by decide +kernel
theorem dX5_checksum_83 : decode cX5_checksum 83 = .ok (.lload_n 1, 1) := by decide +kernel
theorem dX5_checksum_84 : decode cX5_checksum 84 = .ok (.lmul, 1) := by decide +kernel
theorem dX5_checksum_85 : decode cX5_checksum 85 = .ok (.aload 4, 2) := by decide +kernel
theorem dX5_checksum_87 : decode cX5_checksum 87 = .ok (.invokevirtual 60, 3) := by decide +kernel
theorem dX5_checksum_90 : decode cX5_checksum 90 = .ok (.i2l, 1) := by decide +kernel
theorem dX5_checksum_91 : decode cX5_checksum 91 = .ok (.ladd, 1) := by decide +kernel
theorem dX5_checksum_92 : decode cX5_checksum 92 = .ok (.invokevirtual 270, 3) := by decide +kernel
theorem dX5_checksum_95 : decode cX5_checksum 95 = .ok (.lstore_n 1, 1) := by decide +kernel
theorem dX5_checksum_96 : decode cX5_checksum 96 = .ok (.iinc 3 1, 3) := by decide +kernel
theorem dX5_checksum_99 : decode cX5_checksum 99 = .ok (.goto (-40), 3) := by decide +kernel
theorem dX5_checksum_102 : decode cX5_checksum 102 = .ok (.lload_n 1, 1) := by decide +kernel
theorem dX5_checksum_103 : decode cX5_checksum 103 = .ok (.lreturn, 1) := by decide +kernel
set_option maxRecDepth 20000 in
theorem ggX5_rankNear_X4_countNotGreater : GoodIn wsX5_rankNear wsX4_countNotGreater := goodIn_r _ [7, 8, 9, 10, 11, 6, 12, 13, 14, 15, 16, 17, 18, 19, 20, 21, 22, 23, 24, 25, 36, 37, 38, 39, 40, 41] (by decide +kernel) (by decide +kernel)
set_option maxRecDepth 20000 in
theorem gX5_rankNear_X4_countNotGreater : GoodIn wsX5_rankNear (wsV RX5 276 RX4 yX4_countNotGreater wsX4_countNotGreater) := goodIn_app (goodIn_of _ (by decide +kernel)) ggX5_rankNear_X4_countNotGreater
set_option maxRecDepth 20000 in
theorem ggX5_rankNear_X4_countLess : GoodIn wsX5_rankNear wsX4_countLess := goodIn_r _ [29, 8, 9, 10, 11, 6, 12, 13, 14, 15, 16, 17, 18, 19, 20, 21, 22, 23, 24, 25, 36, 37, 38, 39, 40, 41] (by decide +kernel) (by decide +kernel)
set_option maxRecDepth 20000 in
theorem gX5_rankNear_X4_countLess : GoodIn wsX5_rankNear (wsV RX5 141 RX4 yX4_countLess wsX4_countLess) := goodIn_app (goodIn_of _ (by decide +kernel)) ggX5_rankNear_X4_countLess
theorem dX5_rankNear_0 : decode cX5_rankNear 0 = .ok (.iload_n 1, 1) := by decide +kernel
theorem dX5_rankNear_1 : decode cX5_rankNear 1 = .ok (.bipush 102, 2) := by decide +kernel
theorem dX5_rankNear_3 : decode cX5_rankNear 3 = .ok (.if_icmp .ne 17, 3) := by decide +kernel
theorem dX5_rankNear_6 : decode cX5_rankNear 6 = .ok (.aload_n 0, 1) := by decide +kernel
theorem dX5_rankNear_7 : decode cX5_rankNear 7 = .ok (.getfield 24, 3) := by decide +kernel
theorem dX5_rankNear_10 : decode cX5_rankNear 10 = .ok (.aload_n 0, 1) := by decide +kernel
theorem dX5_rankNear_11 : decode cX5_rankNear 11 = .ok (.getfield 14, 3) := by decide +kernel
theorem dX5_rankNear_14 : decode cX5_rankNear 14 = .ok (.invokevirtual 276, 3) := by decide +kernel
theorem dX5_rankNear_17 : decode cX5_rankNear 17 = .ok (.iconst 1, 1) := by decide +kernel
theorem dX5_rankNear_18 : decode cX5_rankNear 18 = .ok (.isub, 1) := by decide +kernel
theorem dX5_rankNear_19 : decode cX5_rankNear 19 = .ok (.ireturn, 1) := by decide +kernel
theorem dX5_rankNear_20 : decode cX5_rankNear 20 = .ok (.iload_n 1, 1) := by decide +kernel
theorem dX5_rankNear_21 : decode cX5_rankNear 21 = .ok (.bipush 99, 2) := by decide +kernel
theorem dX5_rankNear_23 : decode cX5_rankNear 23 = .ok (.if_icmp .ne 15, 3) := by decide +kernel
theorem dX5_rankNear_26 : decode cX5_rankNear 26 = .ok (.aload_n 0, 1) := by decide +kernel
theorem dX5_rankNear_27 : decode cX5_rankNear 27 = .ok (.getfield 24, 3) := by decide +kernel
theorem dX5_rankNear_30 : decode cX5_rankNear 30 = .ok (.aload_n 0, 1) := by decide +kernel
theorem dX5_rankNear_31 : decode cX5_rankNear 31 = .ok (.getfield 14, 3) := by decide +kernel
theorem dX5_rankNear_34 : decode cX5_rankNear 34 = .ok (.invokevirtual 141, 3) := by decide +kernel
theorem dX5_rankNear_37 : decode cX5_rankNear 37 = .ok (.ireturn, 1) := by decide +kernel
theorem dX5_rankNear_38 : decode cX5_rankNear 38 = .ok (.iload_n 1, 1) := by decide +kernel
theorem dX5_rankNear_39 : decode cX5_rankNear 39 = .ok (.bipush 108, 2) := by decide +kernel
theorem dX5_rankNear_41 : decode cX5_rankNear 41 = .ok (.if_icmp .ne 17, 3) := by decide +kernel
theorem dX5_rankNear_44 : decode cX5_rankNear 44 = .ok (.aload_n 0, 1) := by decide +kernel
theorem dX5_rankNear_45 : decode cX5_rankNear 45 = .ok (.getfield 24, 3) := by decide +kernel
theorem dX5_rankNear_48 : decode cX5_rankNear 48 = .ok (.aload_n 0, 1) := by decide +kernel
theorem dX5_rankNear_49 : decode cX5_rankNear 49 = .ok (.getfield 14, 3) := by decide +kernel
theorem dX5_rankNear_52 : decode cX5_rankNear 52 = .ok (.invokevirtual 141, 3) := by decide +kernel
theorem dX5_rankNear_55 : decode cX5_rankNear 55 = .ok (.iconst 1, 1) := by decide +kernel
theorem dX5_rankNear_56 : decode cX5_rankNear 56 = .ok (.isub, 1) := by decide +kernel
theorem dX5_rankNear_57 : decode cX5_rankNear 57 = .ok (.ireturn, 1) := by decide +kernel
theorem dX5_rankNear_58 : decode cX5_rankNear 58 = .ok (.aload_n 0, 1) := by decide +kernel
theorem dX5_rankNear_59 : decode cX5_rankNear 59 = .ok (.getfield 24, 3) := by decide +kernel
theorem dX5_rankNear_62 : decode cX5_rankNear 62 = .ok (.aload_n 0, 1) := by decide +kernel
theorem dX5_rankNear_63 : decode cX5_rankNear 63 = .ok (.getfield 14, 3) := by decide +kernel
theorem dX5_rankNear_66 : decode cX5_rankNear 66 = .ok (.invokevirtual 276, 3) := by decide +kernel
theorem dX5_rankNear_69 : decode cX5_rankNear 69 = .ok (.ireturn, 1) := by decide +kernel
theorem dX5_isSign_0 : decode cX5_isSign 0 = .ok (.iload_n 0, 1) := by decide +kernel
theorem dX5_isSign_1 : decode cX5_isSign 1 = .ok (.bipush 97, 2) := by decide +kernel
theorem dX5_isSign_3 : decode cX5_isSign 3 = .ok (.if_icmp .lt 13, 3) := by decide +kernel
theorem dX5_isSign_6 : decode cX5_isSign 6 = .ok (.iload_n 0, 1) := by decide +kernel
theorem dX5_isSign_7 : decode cX5_isSign 7 = .ok (.bipush 103, 2) := by decide +kernel
theorem dX5_isSign_9 : decode cX5_isSign 9 = .ok (.if_icmp .ge 7, 3) := by decide +kernel
theorem dX5_isSign_12 : decode cX5_isSign 12 = .ok (.iconst 1, 1) := by decide +kernel
theorem dX5_isSign_13 : decode cX5_isSign 13 = .ok (.goto 4, 3) := by decide +kernel
theorem dX5_isSign_16 : decode cX5_isSign 16 = .ok (.iconst 0, 1) := by decide +kernel
theorem dX5_isSign_17 : decode cX5_isSign 17 = .ok (.ireturn, 1) := by decide +kernel
theorem dX5_signOf_0 : decode cX5_signOf 0 = .ok (.bipush 97, 2) := by decide +kernel
theorem dX5_signOf_2 : decode cX5_signOf 2 = .ok (.iload_n 0, 1) := by decide +kernel
theorem dX5_signOf_3 : decode cX5_signOf 3 = .ok (.iadd, 1) := by decide +kernel
theorem dX5_signOf_4 : decode cX5_signOf 4 = .ok (.i2c, 1) := by decide +kernel
theorem dX5_signOf_5 : decode cX5_signOf 5 = .ok (.ireturn, 1) := by decide +kernel
