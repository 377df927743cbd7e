set_option maxRecDepth 20000 in
theorem ggX0_init_X2_init : GoodIn wsX0_init wsX2_init := goodIn_r _ [12, 13, 2, 3, 14, 15, 16, 17, 18, 19, 20, 31, 32] (by decide +kernel) (by decide +kernel)
set_option maxRecDepth 20000 in
theorem gX0_init_X2_init : GoodIn wsX0_init (wsX2_init) := ggX0_init_X2_init
set_option maxRecDepth 20000 in
theorem ggX0_init_X5_signOf : GoodIn wsX0_init wsX5_signOf := goodIn_r _ [23] (by decide +kernel) (by decide +kernel)
set_option maxRecDepth 20000 in
theorem gX0_init_X5_signOf_n20 : GoodIn wsX0_init (wsX5_signOf) := ggX0_init_X5_signOf
set_option maxRecDepth 20000 in
theorem ggX0_init_X2_append : GoodIn wsX0_init wsX2_append := goodIn_r _ [27, 20, 19, 31, 32] (by decide +kernel) (by decide +kernel)
set_option maxRecDepth 20000 in
theorem gX0_init_X2_append : GoodIn wsX0_init (wsV RX0 24 RX2 yX2_append wsX2_append) := goodIn_app (goodIn_of _ (by decide +kernel)) ggX0_init_X2_append
theorem dX0_init_0 : decode cX0_init 0 = .ok (.aload_n 0, 1) := by decide +kernel
theorem dX0_init_1 : decode cX0_init 1 = .ok (.invokespecial 3, 3) := by decide +kernel
theorem dX0_init_4 : decode cX0_init 4 = .ok (.aload_n 0, 1) := by decide +kernel
theorem dX0_init_5 : decode cX0_init 5 = .ok (.bipush 6, 2) := by decide +kernel
theorem dX0_init_7 : decode cX0_init 7 = .ok (.anewarray 9, 3) := by decide +kernel
theorem dX0_init_10 : decode cX0_init 10 = .ok (.putfield 11, 3) := by decide +kernel
theorem dX0_init_13 : decode cX0_init 13 = .ok (.iconst 0, 1) := by decide +kernel
theorem dX0_init_14 : decode cX0_init 14 = .ok (.istore_n 1, 1) := by decide +kernel
theorem dX0_init_15 : decode cX0_init 15 = .ok (.iload_n 1, 1) := by decide +kernel
theorem dX0_init_16 : decode cX0_init 16 = .ok (.aload_n 0, 1) := by decide +kernel
theorem dX0_init_17 : decode cX0_init 17 = .ok (.getfield 11, 3) := by decide +kernel
theorem dX0_init_20 : decode cX0_init 20 = .ok (.arraylength, 1) := by decide +kernel
theorem dX0_init_21 : decode cX0_init 21 = .ok (.if_icmp .ge 36, 3) := by decide +kernel
theorem dX0_init_24 : decode cX0_init 24 = .ok (.aload_n 0, 1) := by decide +kernel
theorem dX0_init_25 : decode cX0_init 25 = .ok (.getfield 11, 3) := by decide +kernel
theorem dX0_init_28 : decode cX0_init 28 = .ok (.iload_n 1, 1) := by decide +kernel
theorem dX0_init_29 : decode cX0_init 29 = .ok (.new 9, 3) := by decide +kernel
theorem dX0_init_32 : decode cX0_init 32 = .ok (.dup, 1) := by decide +kernel
theorem dX0_init_33 : decode cX0_init 33 = .ok (.iconst 3, 1) := by decide +kernel
theorem dX0_init_34 : decode cX0_init 34 = .ok (.invokespecial 17, 3) := by decide +kernel
theorem dX0_init_37 : decode cX0_init 37 = .ok (.aastore, 1) := by decide +kernel
theorem dX0_init_38 : decode cX0_init 38 = .ok (.aload_n 0, 1) := by decide +kernel
theorem dX0_init_39 : decode cX0_init 39 = .ok (.getfield 11, 3) := by decide +kernel
theorem dX0_init_42 : decode cX0_init 42 = .ok (.iload_n 1, 1) := by decide +kernel
theorem dX0_init_43 : decode cX0_init 43 = .ok (.aaload, 1) := by decide +kernel
theorem dX0_init_44 : decode cX0_init 44 = .ok (.iload_n 1, 1) := by decide +kernel
theorem dX0_init_45 : decode cX0_init 45 = .ok (.invokestatic 20, 3) := by decide +kernel
theorem dX0_init_48 : decode cX0_init 48 = .ok (.invokevirtual 24, 3) := by decide +kernel
theorem dX0_init_51 : decode cX0_init 51 = .ok (.iinc 1 1, 3) := by decide +kernel
theorem dX0_init_54 : decode cX0_init 54 = .ok (.goto (-39), 3) := by decide +kernel
theorem dX0_init_57 : decode cX0_init 57 = .ok (.aload_n 0, 1) := by decide +kernel
theorem dX0_init_58 : decode cX0_init 58 = .ok (.bipush 24, 2) := by decide +kernel
theorem dX0_init_60 : decode cX0_init 60 = .ok (.anewarray 9, 3) := by decide +kernel
theorem dX0_init_63 : decode cX0_init 63 = .ok (.putfield 28, 3) := by decide +kernel
theorem dX0_init_66 : decode cX0_init 66 = .ok (.iconst 0, 1) := by decide +kernel
theorem dX0_init_67 : decode cX0_init 67 = .ok (.istore_n 1, 1) := by decide +kernel
theorem dX0_init_68 : decode cX0_init 68 = .ok (.iload_n 1, 1) := by decide +kernel
theorem dX0_init_69 : decode cX0_init 69 = .ok (.aload_n 0, 1) := by decide +kernel
theorem dX0_init_70 : decode cX0_init 70 = .ok (.getfield 28, 3) := by decide +kernel
theorem dX0_init_73 : decode cX0_init 73 = .ok (.arraylength, 1) := by decide +kernel
theorem dX0_init_74 : decode cX0_init 74 = .ok (.if_icmp .ge 24, 3) := by decide +kernel
theorem dX0_init_77 : decode cX0_init 77 = .ok (.aload_n 0, 1) := by decide +kernel
theorem dX0_init_78 : decode cX0_init 78 = .ok (.getfield 28, 3) := by decide +kernel
theorem dX0_init_81 : decode cX0_init 81 = .ok (.iload_n 1, 1) := by decide +kernel
theorem dX0_init_82 : decode cX0_init 82 = .ok (.new 9, 3) := by decide +kernel
theorem dX0_init_85 : decode cX0_init 85 = .ok (.dup, 1) := by decide +kernel
theorem dX0_init_86 : decode cX0_init 86 = .ok (.bipush 30, 2) := by decide +kernel
theorem dX0_init_88 : decode cX0_init 88 = .ok (.invokespecial 17, 3) := by decide +kernel
theorem dX0_init_91 : decode cX0_init 91 = .ok (.aastore, 1) := by decide +kernel
theorem dX0_init_92 : decode cX0_init 92 = .ok (.iinc 1 1, 3) := by decide +kernel
theorem dX0_init_95 : decode cX0_init 95 = .ok (.goto (-27), 3) := by decide +kernel
theorem dX0_init_98 : decode cX0_init 98 = .ok (.aload_n 0, 1) := by decide +kernel
theorem dX0_init_99 : decode cX0_init 99 = .ok (.new 9, 3) := by decide +kernel
theorem dX0_init_102 : decode cX0_init 102 = .ok (.dup, 1) := by decide +kernel
theorem dX0_init_103 : decode cX0_init 103 = .ok (.iconst 0, 1) := by decide +kernel
theorem dX0_init_104 : decode cX0_init 104 = .ok (.invokespecial 17, 3) := by decide +kernel
theorem dX0_init_107 : decode cX0_init 107 = .ok (.putfield 31, 3) := by decide +kernel
theorem dX0_init_110 : decode cX0_init 110 = .ok (.return_, 1) := by decide +kernel
set_option maxRecDepth 20000 in
theorem ggX0_codeOf_X5_isSign : GoodIn wsX0_codeOf wsX5_isSign := goodIn_r _ [5] (by decide +kernel) (by decide +kernel)
set_option maxRecDepth 20000 in
theorem gX0_codeOf_X5_isSign_n35 : GoodIn wsX0_codeOf (wsX5_isSign) := ggX0_codeOf_X5_isSign
theorem dX0_codeOf_0 : decode cX0_codeOf 0 = .ok (.iload_n 1, 1) := by decide +kernel
theorem dX0_codeOf_1 : decode cX0_codeOf 1 = .ok (.invokestatic 35, 3) := by decide +kernel
theorem dX0_codeOf_4 : decode cX0_codeOf 4 = .ok (.ifCond .eq 15, 3) := by decide +kernel
theorem dX0_codeOf_7 : decode cX0_codeOf 7 = .ok (.aload_n 0, 1) := by decide +kernel
theorem dX0_codeOf_8 : decode cX0_codeOf 8 = .ok (.getfield 11, 3) := by decide +kernel
theorem dX0_codeOf_11 : decode cX0_codeOf 11 = .ok (.iload_n 1, 1) := by decide +kernel
theorem dX0_codeOf_12 : decode cX0_codeOf 12 = .ok (.bipush 97, 2) := by decide +kernel
theorem dX0_codeOf_14 : decode cX0_codeOf 14 = .ok (.isub, 1) := by decide +kernel
theorem dX0_codeOf_15 : decode cX0_codeOf 15 = .ok (.aaload, 1) := by decide +kernel
theorem dX0_codeOf_16 : decode cX0_codeOf 16 = .ok (.goto 7, 3) := by decide +kernel
theorem dX0_codeOf_19 : decode cX0_codeOf 19 = .ok (.aload_n 0, 1) := by decide +kernel
theorem dX0_codeOf_20 : decode cX0_codeOf 20 = .ok (.getfield 31, 3) := by decide +kernel
theorem dX0_codeOf_23 : decode cX0_codeOf 23 = .ok (.areturn, 1) := by decide +kernel
set_option maxRecDepth 20000 in
theorem ggX0_isOrderly_X2_compareWith : GoodIn wsX0_isOrderly wsX2_compareWith := goodIn_r _ [6, 7, 8, 9, 10, 11, 5, 12, 24, 25] (by decide +kernel) (by decide +kernel)
set_option maxRecDepth 20000 in
theorem gX0_isOrderly_X2_compareWith : GoodIn wsX0_isOrderly (wsV RX0 39 RX2 yX2_compareWith wsX2_compareWith) := goodIn_app (goodIn_of _ (by decide +kernel)) ggX0_isOrderly_X2_compareWith
set_option maxRecDepth 20000 in
theorem ggX0_isOrderly_X2_beginsWith : GoodIn wsX0_isOrderly wsX2_beginsWith := goodIn_r _ [16, 17, 18, 19, 5, 20, 7, 8, 24, 25] (by decide +kernel) (by decide +kernel)
set_option maxRecDepth 20000 in
theorem gX0_isOrderly_X2_beginsWith : GoodIn wsX0_isOrderly (wsV RX0 43 RX2 yX2_beginsWith wsX2_beginsWith) := goodIn_app (goodIn_of _ (by decide +kernel)) ggX0_isOrderly_X2_beginsWith
theorem dX0_isOrderly_0 : decode cX0_isOrderly 0 = .ok (.iconst 0, 1) := by decide +kernel
theorem dX0_isOrderly_1 : decode cX0_isOrderly 1 = .ok (.istore_n 1, 1) := by decide +kernel
theorem dX0_isOrderly_2 : decode cX0_isOrderly 2 = .ok (.iload_n 1, 1) := by decide +kernel
theorem dX0_isOrderly_3 : decode cX0_isOrderly 3 = .ok (.bipush 6, 2) := by decide +kernel
theorem dX0_isOrderly_5 : decode cX0_isOrderly 5 = .ok (.if_icmp .ge 63, 3) := by decide +kernel
theorem dX0_isOrderly_8 : decode cX0_isOrderly 8 = .ok (.iload_n 1, 1) := by decide +kernel
theorem dX0_isOrderly_9 : decode cX0_isOrderly 9 = .ok (.iconst 1, 1) := by decide +kernel
theorem dX0_isOrderly_10 : decode cX0_isOrderly 10 = .ok (.iadd, 1) := by decide +kernel
theorem dX0_isOrderly_11 : decode cX0_isOrderly 11 = .ok (.istore_n 2, 1) := by decide +kernel
theorem dX0_isOrderly_12 : decode cX0_isOrderly 12 = .ok (.iload_n 2, 1) := by decide +kernel
theorem dX0_isOrderly_13 : decode cX0_isOrderly 13 = .ok (.bipush 6, 2) := by decide +kernel
theorem dX0_isOrderly_15 : decode cX0_isOrderly 15 = .ok (.if_icmp .ge 47, 3) := by decide +kernel
theorem dX0_isOrderly_18 : decode cX0_isOrderly 18 = .ok (.aload_n 0, 1) := by decide +kernel
theorem dX0_isOrderly_19 : decode cX0_isOrderly 19 = .ok (.getfield 11, 3) := by decide +kernel
theorem dX0_isOrderly_22 : decode cX0_isOrderly 22 = .ok (.iload_n 1, 1) := by decide +kernel
theorem dX0_isOrderly_23 : decode cX0_isOrderly 23 = .ok (.aaload, 1) := by decide +kernel
theorem dX0_isOrderly_24 : decode cX0_isOrderly 24 = .ok (.aload_n 0, 1) := by decide +kernel
theorem dX0_isOrderly_25 : decode cX0_isOrderly 25 = .ok (.getfield 11, 3) := by decide +kernel
theorem dX0_isOrderly_28 : decode cX0_isOrderly 28 = .ok (.iload_n 2, 1) := by decide +kernel
theorem dX0_isOrderly_29 : decode cX0_isOrderly 29 = .ok (.aaload, 1) := by decide +kernel
theorem dX0_isOrderly_30 : decode cX0_isOrderly 30 = .ok (.invokevirtual 39, 3) := by decide +kernel
theorem dX0_isOrderly_33 : decode cX0_isOrderly 33 = .ok (.ifCond .ge 21, 3) := by decide +kernel
theorem dX0_isOrderly_36 : decode cX0_isOrderly 36 = .ok (.aload_n 0, 1) := by decide +kernel
theorem dX0_isOrderly_37 : decode cX0_isOrderly 37 = .ok (.getfield 11, 3) := by decide +kernel
theorem dX0_isOrderly_40 : decode cX0_isOrderly 40 = .ok (.iload_n 2, 1) := by decide +kernel
theorem dX0_isOrderly_41 : decode cX0_isOrderly 41 = .ok (.aaload, 1) := by decide +kernel
theorem dX0_isOrderly_42 : decode cX0_isOrderly 42 = .ok (.aload_n 0, 1) := by decide +kernel
theorem dX0_isOrderly_43 : decode cX0_isOrderly 43 = .ok (.getfield 11, 3) := by decide +kernel
theorem dX0_isOrderly_46 : decode cX0_isOrderly 46 = .ok (.iload_n 1, 1) := by decide +kernel
theorem dX0_isOrderly_47 : decode cX0_isOrderly 47 = .ok (.aaload, 1) := by decide +kernel
theorem dX0_isOrderly_48 : decode cX0_isOrderly 48 = .ok (.invokevirtual 43, 3) := by decide +kernel
theorem dX0_isOrderly_51 : decode cX0_isOrderly 51 = .ok (.ifCond .eq 5, 3) := by decide +kernel
theorem dX0_isOrderly_54 : decode cX0_isOrderly 54 = .ok (.iconst 0, 1) := by decide +kernel
theorem dX0_isOrderly_55 : decode cX0_isOrderly 55 = .ok (.ireturn, 1) := by decide +kernel
theorem dX0_isOrderly_56 : decode cX0_isOrderly 56 = .ok (.iinc 2 1, 3) := by decide +kernel
theorem dX0_isOrderly_59 : decode cX0_isOrderly 59 = .ok (.goto (-47), 3) := by decide +kernel
theorem dX0_isOrderly_62 : decode cX0_isOrderly 62 = .ok (.iinc 1 1, 3) := by decide +kernel
theorem dX0_isOrderly_65 : decode cX0_isOrderly 65 = .ok (.goto (-63), 3) := by decide +kernel
theorem dX0_isOrderly_68 : decode cX0_isOrderly 68 = .ok (.iconst 1, 1) := by decide +kernel
theorem dX0_isOrderly_69 : decode cX0_isOrderly 69 = .ok (.ireturn, 1) := by decide +kernel
set_option maxRecDepth 20000 in
theorem ggX0_sizeWritten_X2_size : GoodIn wsX0_sizeWritten wsX2_size := goodIn_r _ [5, 6, 22, 23] (by decide +kernel) (by decide +kernel)
set_option maxRecDepth 20000 in
theorem gX0_sizeWritten_X2_size : GoodIn wsX0_sizeWritten (wsV RX0 47 RX2 yX2_size wsX2_size) := goodIn_app (goodIn_of _ (by decide +kernel)) ggX0_sizeWritten_X2_size
set_option maxRecDepth 20000 in
theorem ggX0_sizeWritten_X2_at : GoodIn wsX0_sizeWritten wsX2_at := goodIn_r _ [10, 6, 11, 22, 23] (by decide +kernel) (by decide +kernel)
set_option maxRecDepth 20000 in
theorem gX0_sizeWritten_X2_at : GoodIn wsX0_sizeWritten (wsV RX0 51 RX2 yX2_at wsX2_at) := goodIn_app (goodIn_of _ (by decide +kernel)) ggX0_sizeWritten_X2_at
set_option maxRecDepth 20000 in
theorem ggX0_sizeWritten_X0_codeOf : GoodIn wsX0_sizeWritten wsX0_codeOf := goodIn_r _ [16, 17, 18, 19, 20, 21, 24, 25, 26] (by decide +kernel) (by decide +kernel)
set_option maxRecDepth 20000 in
theorem gX0_sizeWritten_X0_codeOf : GoodIn wsX0_sizeWritten (wsV RX0 54 RX0 yX0_codeOf wsX0_codeOf) := goodIn_app (goodIn_of _ (by decide +kernel)) ggX0_sizeWritten_X0_codeOf
theorem dX0_sizeWritten_0 : decode cX0_sizeWritten 0 = .ok (.iconst 0, 1) := by decide +kernel
theorem dX0_sizeWritten_1 : decode cX0_sizeWritten 1 = .ok (.istore_n 2, 1) := by decide +kernel
theorem dX0_sizeWritten_2 : decode cX0_sizeWritten 2 = .ok (.iconst 0, 1) := by decide +kernel
theorem dX0_sizeWritten_3 : decode cX0_sizeWritten 3 = .ok (.istore_n 3, 1) := by decide +kernel
theorem dX0_sizeWritten_4 : decode cX0_sizeWritten 4 = .ok (.iload_n 3, 1) := by decide +kernel
theorem dX0_sizeWritten_5 : decode cX0_sizeWritten 5 = .ok (.aload_n 1, 1) := by decide +kernel
theorem dX0_sizeWritten_6 : decode cX0_sizeWritten 6 = .ok (.invokevirtual 47, 3) := by decide +kernel
theorem dX0_sizeWritten_9 : decode cX0_sizeWritten 9 = .ok (.if_icmp .ge 24, 3) := by decide +kernel
theorem dX0_sizeWritten_12 : decode cX0_sizeWritten 12 = .ok (.iload_n 2, 1) := by decide +kernel
theorem dX0_sizeWritten_13 : decode cX0_sizeWritten 13 = .ok (.aload_n 0, 1) := by decide +kernel
theorem dX0_sizeWritten_14 : decode cX0_sizeWritten 14 = .ok (.aload_n 1, 1) := by decide +kernel
theorem dX0_sizeWritten_15 : decode cX0_sizeWritten 15 = .ok (.iload_n 3, 1) := by decide +kernel
theorem dX0_sizeWritten_16 : decode cX0_sizeWritten 16 = .ok (.invokevirtual 51, 3) := by decide +kernel
theorem dX0_sizeWritten_19 : decode cX0_sizeWritten 19 = .ok (.invokevirtual 54, 3) := by decide +kernel
theorem dX0_sizeWritten_22 : decode cX0_sizeWritten 22 = .ok (.invokevirtual 47, 3) := by decide +kernel
theorem dX0_sizeWritten_25 : decode cX0_sizeWritten 25 = .ok (.iadd, 1) := by decide +kernel
theorem dX0_sizeWritten_26 : decode cX0_sizeWritten 26 = .ok (.istore_n 2, 1) := by decide +kernel
theorem dX0_sizeWritten_27 : decode cX0_sizeWritten 27 = .ok (.iinc 3 1, 3) := by decide +kernel
theorem dX0_sizeWritten_30 : decode cX0_sizeWritten 30 = .ok (.goto (-26), 3) := by decide +kernel
theorem dX0_sizeWritten_33 : decode cX0_sizeWritten 33 = .ok (.iload_n 2, 1) := by decide +kernel
theorem dX0_sizeWritten_34 : decode cX0_sizeWritten 34 = .ok (.ireturn, 1) := by decide +kernel
set_option maxRecDepth 20000 in
theorem ggX0_writeInto_X2_clear : GoodIn wsX0_writeInto wsX2_clear := goodIn_r _ [5, 6, 34, 35] (by decide +kernel) (by decide +kernel)
set_option maxRecDepth 20000 in
theorem gX0_writeInto_X2_clear : GoodIn wsX0_writeInto (wsV RX0 58 RX2 yX2_clear wsX2_clear) := goodIn_app (goodIn_of _ (by decide +kernel)) ggX0_writeInto_X2_clear
set_option maxRecDepth 20000 in
theorem ggX0_writeInto_X2_size : GoodIn wsX0_writeInto wsX2_size := goodIn_r _ [10, 6, 34, 35] (by decide +kernel) (by decide +kernel)
set_option maxRecDepth 20000 in
theorem gX0_writeInto_X2_size : GoodIn wsX0_writeInto (wsV RX0 47 RX2 yX2_size wsX2_size) := goodIn_app (goodIn_of _ (by decide +kernel)) ggX0_writeInto_X2_size
set_option maxRecDepth 20000 in
theorem ggX0_writeInto_X2_at : GoodIn wsX0_writeInto wsX2_at := goodIn_r _ [14, 6, 15, 34, 35] (by decide +kernel) (by decide +kernel)
set_option maxRecDepth 20000 in
theorem gX0_writeInto_X2_at : GoodIn wsX0_writeInto (wsV RX0 51 RX2 yX2_at wsX2_at) := goodIn_app (goodIn_of _ (by decide +kernel)) ggX0_writeInto_X2_at
set_option maxRecDepth 20000 in
theorem ggX0_writeInto_X0_codeOf : GoodIn wsX0_writeInto wsX0_codeOf := goodIn_r _ [20, 21, 22, 23, 24, 25, 36, 37, 38] (by decide +kernel) (by decide +kernel)
set_option maxRecDepth 20000 in
theorem gX0_writeInto_X0_codeOf : GoodIn wsX0_writeInto (wsV RX0 54 RX0 yX0_codeOf wsX0_codeOf) := goodIn_app (goodIn_of _ (by decide +kernel)) ggX0_writeInto_X0_codeOf
set_option maxRecDepth 20000 in
theorem ggX0_writeInto_X2_appendAll : GoodIn wsX0_writeInto wsX2_appendAll := goodIn_r _ [29, 6, 15, 30, 31, 32, 4, 33, 34, 35] (by decide +kernel) (by decide +kernel)
set_option maxRecDepth 20000 in
theorem gX0_writeInto_X2_appendAll : GoodIn wsX0_writeInto (wsV RX0 61 RX2 yX2_appendAll wsX2_appendAll) := goodIn_app (goodIn_of _ (by decide +kernel)) ggX0_writeInto_X2_appendAll
theorem dX0_writeInto_0 : decode cX0_writeInto 0 = .ok (.aload_n 2, 1) := by decide +kernel
theorem dX0_writeInto_1 : decode cX0_writeInto 1 = .ok (.invokevirtual 58, 3) := by decide +kernel
theorem dX0_writeInto_4 : decode cX0_writeInto 4 = .ok (.iconst 0, 1) := by decide +kernel
theorem dX0_writeInto_5 : decode cX0_writeInto 5 = .ok (.istore_n 3, 1) := by decide +kernel
theorem dX0_writeInto_6 : decode cX0_writeInto 6 = .ok (.iload_n 3, 1) := by decide +kernel
theorem dX0_writeInto_7 : decode cX0_writeInto 7 = .ok (.aload_n 1, 1) := by decide +kernel
theorem dX0_writeInto_8 : decode cX0_writeInto 8 = .ok (.invokevirtual 47, 3) := by decide +kernel
theorem dX0_writeInto_11 : decode cX0_writeInto 11 = .ok (.if_icmp .ge 22, 3) := by decide +kernel
theorem dX0_writeInto_14 : decode cX0_writeInto 14 = .ok (.aload_n 2, 1) := by decide +kernel
theorem dX0_writeInto_15 : decode cX0_writeInto 15 = .ok (.aload_n 0, 1) := by decide +kernel
theorem dX0_writeInto_16 : decode cX0_writeInto 16 = .ok (.aload_n 1, 1) := by decide +kernel
theorem dX0_writeInto_17 : decode cX0_writeInto 17 = .ok (.iload_n 3, 1) := by decide +kernel
theorem dX0_writeInto_18 : decode cX0_writeInto 18 = .ok (.invokevirtual 51, 3) := by decide +kernel
theorem dX0_writeInto_21 : decode cX0_writeInto 21 = .ok (.invokevirtual 54, 3) := by decide +kernel
theorem dX0_writeInto_24 : decode cX0_writeInto 24 = .ok (.invokevirtual 61, 3) := by decide +kernel
theorem dX0_writeInto_27 : decode cX0_writeInto 27 = .ok (.iinc 3 1, 3) := by decide +kernel
theorem dX0_writeInto_30 : decode cX0_writeInto 30 = .ok (.goto (-24), 3) := by decide +kernel
theorem dX0_writeInto_33 : decode cX0_writeInto 33 = .ok (.return_, 1) := by decide +kernel
set_option maxRecDepth 20000 in
theorem ggX0_mostWritten_X4_size : GoodIn wsX0_mostWritten wsX4_size := goodIn_r _ [9, 10, 42, 43, 44, 45] (by decide +kernel) (by decide +kernel)
set_option maxRecDepth 20000 in
theorem gX0_mostWritten_X4_size : GoodIn wsX0_mostWritten (wsV RX0 65 RX4 yX4_size wsX4_size) := goodIn_app (goodIn_of _ (by decide +kernel)) ggX0_mostWritten_X4_size
set_option maxRecDepth 20000 in
theorem ggX0_mostWritten_X4_rowAt : GoodIn wsX0_mostWritten wsX4_rowAt := goodIn_r _ [14, 10, 15, 16, 42, 43, 44, 45] (by decide +kernel) (by decide +kernel)
set_option maxRecDepth 20000 in
theorem gX0_mostWritten_X4_rowAt : GoodIn wsX0_mostWritten (wsV RX0 68 RX4 yX4_rowAt wsX4_rowAt) := goodIn_app (goodIn_of _ (by decide +kernel)) ggX0_mostWritten_X4_rowAt
set_option maxRecDepth 20000 in
theorem ggX0_mostWritten_X0_sizeWritten : GoodIn wsX0_mostWritten wsX0_sizeWritten := goodIn_r _ [21, 22, 23, 24, 25, 26, 27, 28, 29, 30, 31, 32, 33, 34, 35, 20, 36, 37, 38, 39, 40, 41, 46, 47, 48, 49, 50] (by decide +kernel) (by decide +kernel)
set_option maxRecDepth 20000 in
theorem gX0_mostWritten_X0_sizeWritten : GoodIn wsX0_mostWritten (wsV RX0 72 RX0 yX0_sizeWritten wsX0_sizeWritten) := goodIn_app (goodIn_of _ (by decide +kernel)) ggX0_mostWritten_X0_sizeWritten
theorem dX0_mostWritten_0 : decode cX0_mostWritten 0 = .ok (.iconst 0, 1) := by decide +kernel
theorem dX0_mostWritten_1 : decode cX0_mostWritten 1 = .ok (.istore_n 2, 1) := by decide +kernel
theorem dX0_mostWritten_2 : decode cX0_mostWritten 2 = .ok (.iconst 0, 1) := by decide +kernel
theorem dX0_mostWritten_3 : decode cX0_mostWritten 3 = .ok (.istore_n 3, 1) := by decide +kernel
theorem dX0_mostWritten_4 : decode cX0_mostWritten 4 = .ok (.iload_n 3, 1) := by decide +kernel
theorem dX0_mostWritten_5 : decode cX0_mostWritten 5 = .ok (.aload_n 1, 1) := by decide +kernel
theorem dX0_mostWritten_6 : decode cX0_mostWritten 6 = .ok (.invokevirtual 65, 3) := by decide +kernel
theorem dX0_mostWritten_9 : decode cX0_mostWritten 9 = .ok (.if_icmp .ge 23, 3) := by decide +kernel
theorem dX0_mostWritten_12 : decode cX0_mostWritten 12 = .ok (.iload_n 2, 1) := by decide +kernel
theorem dX0_mostWritten_13 : decode cX0_mostWritten 13 = .ok (.aload_n 0, 1) := by decide +kernel
theorem dX0_mostWritten_14 : decode cX0_mostWritten 14 = .ok (.aload_n 1, 1) := by decide +kernel
theorem dX0_mostWritten_15 : decode cX0_mostWritten 15 = .ok (.iload_n 3, 1) := by decide +kernel
theorem dX0_mostWritten_16 : decode cX0_mostWritten 16 = .ok (.invokevirtual 68, 3) := by decide +kernel
theorem dX0_mostWritten_19 : decode cX0_mostWritten 19 = .ok (.invokevirtual 72, 3) := by decide +kernel
theorem dX0_mostWritten_22 : decode cX0_mostWritten 22 = .ok (.invokestatic 75, 3) := by decide +kernel
theorem dX0_mostWritten_25 : decode cX0_mostWritten 25 = .ok (.istore_n 2, 1) := by decide +kernel
theorem dX0_mostWritten_26 : decode cX0_mostWritten 26 = .ok (.iinc 3 1, 3) := by decide +kernel
theorem dX0_mostWritten_29 : decode cX0_mostWritten 29 = .ok (.goto (-25), 3) := by decide +kernel
theorem dX0_mostWritten_32 : decode cX0_mostWritten 32 = .ok (.iload_n 2, 1) := by decide +kernel
theorem dX0_mostWritten_33 : decode cX0_mostWritten 33 = .ok (.ireturn, 1) := by decide +kernel
set_option maxRecDepth 20000 in
theorem ggX0_writeWords_X4_size : GoodIn wsX0_writeWords wsX4_size := goodIn_r _ [5, 6, 55, 56, 57, 58] (by decide +kernel) (by decide +kernel)
set_option maxRecDepth 20000 in
theorem gX0_writeWords_X4_size : GoodIn wsX0_writeWords (wsV RX0 65 RX4 yX4_size wsX4_size) := goodIn_app (goodIn_of _ (by decide +kernel)) ggX0_writeWords_X4_size
set_option maxRecDepth 20000 in
theorem ggX0_writeWords_X4_rowAt : GoodIn wsX0_writeWords wsX4_rowAt := goodIn_r _ [10, 6, 11, 12, 55, 56, 57, 58] (by decide +kernel) (by decide +kernel)
set_option maxRecDepth 20000 in
theorem gX0_writeWords_X4_rowAt : GoodIn wsX0_writeWords (wsV RX0 68 RX4 yX4_rowAt wsX4_rowAt) := goodIn_app (goodIn_of _ (by decide +kernel)) ggX0_writeWords_X4_rowAt
set_option maxRecDepth 20000 in
theorem ggX0_writeWords_X0_writtenAt : GoodIn wsX0_writeWords wsX0_writtenAt := goodIn_r _ [17, 18, 19, 59, 60, 61] (by decide +kernel) (by decide +kernel)
set_option maxRecDepth 20000 in
theorem gX0_writeWords_X0_writtenAt : GoodIn wsX0_writeWords (wsV RX0 81 RX0 yX0_writtenAt wsX0_writtenAt) := goodIn_app (goodIn_of _ (by decide +kernel)) ggX0_writeWords_X0_writtenAt
set_option maxRecDepth 20000 in
theorem ggX0_writeWords_X0_writeInto : GoodIn wsX0_writeWords wsX0_writeInto := goodIn_r _ [23, 24, 25, 26, 27, 28, 29, 30, 31, 32, 33, 34, 35, 36, 37, 38, 39, 40, 41, 16, 42, 43, 19, 44, 45, 46, 47, 48, 49, 50, 51, 52, 53, 54, 62, 63, 59, 60, 61] (by decide +kernel) (by decide +kernel)
set_option maxRecDepth 20000 in
theorem gX0_writeWords_X0_writeInto : GoodIn wsX0_writeWords (wsV RX0 84 RX0 yX0_writeInto wsX0_writeInto) := goodIn_app (goodIn_of _ (by decide +kernel)) ggX0_writeWords_X0_writeInto
theorem dX0_writeWords_0 : decode cX0_writeWords 0 = .ok (.iconst 0, 1) := by decide +kernel
theorem dX0_writeWords_1 : decode cX0_writeWords 1 = .ok (.istore_n 2, 1) := by decide +kernel
theorem dX0_writeWords_2 : decode cX0_writeWords 2 = .ok (.iload_n 2, 1) := by decide +kernel
theorem dX0_writeWords_3 : decode cX0_writeWords 3 = .ok (.aload_n 1, 1) := by decide +kernel
theorem dX0_writeWords_4 : decode cX0_writeWords 4 = .ok (.invokevirtual 65, 3) := by decide +kernel
theorem dX0_writeWords_7 : decode cX0_writeWords 7 = .ok (.if_icmp .ge 23, 3) := by decide +kernel
theorem dX0_writeWords_10 : decode cX0_writeWords 10 = .ok (.aload_n 0, 1) := by decide +kernel
theorem dX0_writeWords_11 : decode cX0_writeWords 11 = .ok (.aload_n 1, 1) := by decide +kernel
theorem dX0_writeWords_12 : decode cX0_writeWords 12 = .ok (.iload_n 2, 1) := by decide +kernel
theorem dX0_writeWords_13 : decode cX0_writeWords 13 = .ok (.invokevirtual 68, 3) := by decide +kernel
theorem dX0_writeWords_16 : decode cX0_writeWords 16 = .ok (.aload_n 0, 1) := by decide +kernel
theorem dX0_writeWords_17 : decode cX0_writeWords 17 = .ok (.iload_n 2, 1) := by decide +kernel
theorem dX0_writeWords_18 : decode cX0_writeWords 18 = .ok (.invokevirtual 81, 3) := by decide +kernel
theorem dX0_writeWords_21 : decode cX0_writeWords 21 = .ok (.invokevirtual 84, 3) := by decide +kernel
theorem dX0_writeWords_24 : decode cX0_writeWords 24 = .ok (.iinc 2 1, 3) := by decide +kernel
theorem dX0_writeWords_27 : decode cX0_writeWords 27 = .ok (.goto (-25), 3) := by decide +kernel
theorem dX0_writeWords_30 : decode cX0_writeWords 30 = .ok (.return_, 1) := by decide +kernel
theorem dX0_writtenAt_0 : decode cX0_writtenAt 0 = .ok (.iload_n 1, 1) := by decide +kernel
theorem dX0_writtenAt_1 : decode cX0_writtenAt 1 = .ok (.ifCond .lt 21, 3) := by decide +kernel
theorem dX0_writtenAt_4 : decode cX0_writtenAt 4 = .ok (.iload_n 1, 1) := by decide +kernel
theorem dX0_writtenAt_5 : decode cX0_writtenAt 5 = .ok (.aload_n 0, 1) := by decide +kernel
theorem dX0_writtenAt_6 : decode cX0_writtenAt 6 = .ok (.getfield 28, 3) := by decide +kernel
theorem dX0_writtenAt_9 : decode cX0_writtenAt 9 = .ok (.arraylength, 1) := by decide +kernel
theorem dX0_writtenAt_10 : decode cX0_writtenAt 10 = .ok (.if_icmp .ge 12, 3) := by decide +kernel
theorem dX0_writtenAt_13 : decode cX0_writtenAt 13 = .ok (.aload_n 0, 1) := by decide +kernel
theorem dX0_writtenAt_14 : decode cX0_writtenAt 14 = .ok (.getfield 28, 3) := by decide +kernel
theorem dX0_writtenAt_17 : decode cX0_writtenAt 17 = .ok (.iload_n 1, 1) := by decide +kernel
theorem dX0_writtenAt_18 : decode cX0_writtenAt 18 = .ok (.aaload, 1) := by decide +kernel
theorem dX0_writtenAt_19 : decode cX0_writtenAt 19 = .ok (.goto 7, 3) := by decide +kernel
theorem dX0_writtenAt_22 : decode cX0_writtenAt 22 = .ok (.aload_n 0, 1) := by decide +kernel
theorem dX0_writtenAt_23 : decode cX0_writtenAt 23 = .ok (.getfield 31, 3) := by decide +kernel
theorem dX0_writtenAt_26 : decode cX0_writtenAt 26 = .ok (.areturn, 1) := by decide +kernel
set_option maxRecDepth 20000 in
theorem ggX0_readInto_X2_clear : GoodIn wsX0_readInto wsX2_clear := goodIn_r _ [5, 6, 36, 37] (by decide +kernel) (by decide +kernel)
set_option maxRecDepth 20000 in
theorem gX0_readInto_X2_clear : GoodIn wsX0_readInto (wsV RX0 58 RX2 yX2_clear wsX2_clear) := goodIn_app (goodIn_of _ (by decide +kernel)) ggX0_readInto_X2_clear
set_option maxRecDepth 20000 in
theorem ggX0_readInto_X2_size : GoodIn wsX0_readInto wsX2_size := goodIn_r _ [10, 6, 36, 37] (by decide +kernel) (by decide +kernel)
set_option maxRecDepth 20000 in
theorem gX0_readInto_X2_size : GoodIn wsX0_readInto (wsV RX0 47 RX2 yX2_size wsX2_size) := goodIn_app (goodIn_of _ (by decide +kernel)) ggX0_readInto_X2_size
set_option maxRecDepth 20000 in
theorem ggX0_readInto_X0_signRead : GoodIn wsX0_readInto wsX0_signRead := goodIn_r _ [15, 16, 17, 18, 19, 4, 20, 6, 21, 22, 23, 24, 38, 39, 40, 36, 37] (by decide +kernel) (by decide +kernel)
set_option maxRecDepth 20000 in
theorem gX0_readInto_X0_signRead : GoodIn wsX0_readInto (wsV RX0 88 RX0 yX0_signRead wsX0_signRead) := goodIn_app (goodIn_of _ (by decide +kernel)) ggX0_readInto_X0_signRead
set_option maxRecDepth 20000 in
theorem ggX0_readInto_X2_append : GoodIn wsX0_readInto wsX2_append := goodIn_r _ [28, 6, 21, 36, 37] (by decide +kernel) (by decide +kernel)
set_option maxRecDepth 20000 in
theorem gX0_readInto_X2_append : GoodIn wsX0_readInto (wsV RX0 24 RX2 yX2_append wsX2_append) := goodIn_app (goodIn_of _ (by decide +kernel)) ggX0_readInto_X2_append
set_option maxRecDepth 20000 in
theorem ggX0_readInto_X0_codeOf : GoodIn wsX0_readInto wsX0_codeOf := goodIn_r _ [32, 16, 33, 34, 23, 35, 38, 39, 40] (by decide +kernel) (by decide +kernel)
set_option maxRecDepth 20000 in
theorem gX0_readInto_X0_codeOf : GoodIn wsX0_readInto (wsV RX0 54 RX0 yX0_codeOf wsX0_codeOf) := goodIn_app (goodIn_of _ (by decide +kernel)) ggX0_readInto_X0_codeOf
theorem dX0_readInto_0 : decode cX0_readInto 0 = .ok (.aload_n 2, 1) := by decide +kernel
theorem dX0_readInto_1 : decode cX0_readInto 1 = .ok (.invokevirtual 58, 3) := by decide +kernel
theorem dX0_readInto_4 : decode cX0_readInto 4 = .ok (.iconst 0, 1) := by decide +kernel
theorem dX0_readInto_5 : decode cX0_readInto 5 = .ok (.istore_n 3, 1) := by decide +kernel
theorem dX0_readInto_6 : decode cX0_readInto 6 = .ok (.iconst 0, 1) := by decide +kernel
theorem dX0_readInto_7 : decode cX0_readInto 7 = .ok (.istore 4, 2) := by decide +kernel
theorem dX0_readInto_9 : decode cX0_readInto 9 = .ok (.iload 4, 2) := by decide +kernel
theorem dX0_readInto_11 : decode cX0_readInto 11 = .ok (.bipush 24, 2) := by decide +kernel
theorem dX0_readInto_13 : decode cX0_readInto 13 = .ok (.if_icmp .ge 50, 3) := by decide +kernel
theorem dX0_readInto_16 : decode cX0_readInto 16 = .ok (.iload_n 3, 1) := by decide +kernel
theorem dX0_readInto_17 : decode cX0_readInto 17 = .ok (.aload_n 1, 1) := by decide +kernel
theorem dX0_readInto_18 : decode cX0_readInto 18 = .ok (.invokevirtual 47, 3) := by decide +kernel
theorem dX0_readInto_21 : decode cX0_readInto 21 = .ok (.if_icmp .ge 42, 3) := by decide +kernel
theorem dX0_readInto_24 : decode cX0_readInto 24 = .ok (.aload_n 0, 1) := by decide +kernel
theorem dX0_readInto_25 : decode cX0_readInto 25 = .ok (.aload_n 1, 1) := by decide +kernel
theorem dX0_readInto_26 : decode cX0_readInto 26 = .ok (.iload_n 3, 1) := by decide +kernel
theorem dX0_readInto_27 : decode cX0_readInto 27 = .ok (.invokevirtual 88, 3) := by decide +kernel
theorem dX0_readInto_30 : decode cX0_readInto 30 = .ok (.istore 5, 2) := by decide +kernel
theorem dX0_readInto_32 : decode cX0_readInto 32 = .ok (.iload 5, 2) := by decide +kernel
theorem dX0_readInto_34 : decode cX0_readInto 34 = .ok (.ifCond .ne 5, 3) := by decide +kernel
theorem dX0_readInto_37 : decode cX0_readInto 37 = .ok (.iconst 0, 1) := by decide +kernel
theorem dX0_readInto_38 : decode cX0_readInto 38 = .ok (.ireturn, 1) := by decide +kernel
theorem dX0_readInto_39 : decode cX0_readInto 39 = .ok (.aload_n 2, 1) := by decide +kernel
theorem dX0_readInto_40 : decode cX0_readInto 40 = .ok (.iload 5, 2) := by decide +kernel
theorem dX0_readInto_42 : decode cX0_readInto 42 = .ok (.invokevirtual 24, 3) := by decide +kernel
theorem dX0_readInto_45 : decode cX0_readInto 45 = .ok (.iload_n 3, 1) := by decide +kernel
theorem dX0_readInto_46 : decode cX0_readInto 46 = .ok (.aload_n 0, 1) := by decide +kernel
theorem dX0_readInto_47 : decode cX0_readInto 47 = .ok (.iload 5, 2) := by decide +kernel
theorem dX0_readInto_49 : decode cX0_readInto 49 = .ok (.invokevirtual 54, 3) := by decide +kernel
theorem dX0_readInto_52 : decode cX0_readInto 52 = .ok (.invokevirtual 47, 3) := by decide +kernel
theorem dX0_readInto_55 : decode cX0_readInto 55 = .ok (.iadd, 1) := by decide +kernel
theorem dX0_readInto_56 : decode cX0_readInto 56 = .ok (.istore_n 3, 1) := by decide +kernel
theorem dX0_readInto_57 : decode cX0_readInto 57 = .ok (.iinc 4 1, 3) := by decide +kernel
theorem dX0_readInto_60 : decode cX0_readInto 60 = .ok (.goto (-51), 3) := by decide +kernel
theorem dX0_readInto_63 : decode cX0_readInto 63 = .ok (.iload_n 3, 1) := by decide +kernel
theorem dX0_readInto_64 : decode cX0_readInto 64 = .ok (.aload_n 1, 1) := by decide +kernel
theorem dX0_readInto_65 : decode cX0_readInto 65 = .ok (.invokevirtual 47, 3) := by decide +kernel
theorem dX0_readInto_68 : decode cX0_readInto 68 = .ok (.if_icmp .ne 7, 3) := by decide +kernel
theorem dX0_readInto_71 : decode cX0_readInto 71 = .ok (.iconst 1, 1) := by decide +kernel
theorem dX0_readInto_72 : decode cX0_readInto 72 = .ok (.goto 4, 3) := by decide +kernel
theorem dX0_readInto_75 : decode cX0_readInto 75 = .ok (.iconst 0, 1) := by decide +kernel
theorem dX0_readInto_76 : decode cX0_readInto 76 = .ok (.ireturn, 1) := by decide +kernel
set_option maxRecDepth 20000 in
theorem ggX0_signRead_X2_hasAt : GoodIn wsX0_signRead wsX2_hasAt := goodIn_r _ [6, 7, 8, 15, 16] (by decide +kernel) (by decide +kernel)
set_option maxRecDepth 20000 in
theorem gX0_signRead_X2_hasAt : GoodIn wsX0_signRead (wsV RX0 92 RX2 yX2_hasAt wsX2_hasAt) := goodIn_app (goodIn_of _ (by decide +kernel)) ggX0_signRead_X2_hasAt
set_option maxRecDepth 20000 in
theorem ggX0_signRead_X5_signOf : GoodIn wsX0_signRead wsX5_signOf := goodIn_r _ [11] (by decide +kernel) (by decide +kernel)
set_option maxRecDepth 20000 in
theorem gX0_signRead_X5_signOf_n20 : GoodIn wsX0_signRead (wsX5_signOf) := ggX0_signRead_X5_signOf
theorem dX0_signRead_0 : decode cX0_signRead 0 = .ok (.iconst 0, 1) := by decide +kernel
theorem dX0_signRead_1 : decode cX0_signRead 1 = .ok (.istore_n 3, 1) := by decide +kernel
theorem dX0_signRead_2 : decode cX0_signRead 2 = .ok (.iload_n 3, 1) := by decide +kernel
theorem dX0_signRead_3 : decode cX0_signRead 3 = .ok (.bipush 6, 2) := by decide +kernel
theorem dX0_signRead_5 : decode cX0_signRead 5 = .ok (.if_icmp .ge 28, 3) := by decide +kernel
theorem dX0_signRead_8 : decode cX0_signRead 8 = .ok (.aload_n 1, 1) := by decide +kernel
theorem dX0_signRead_9 : decode cX0_signRead 9 = .ok (.iload_n 2, 1) := by decide +kernel
theorem dX0_signRead_10 : decode cX0_signRead 10 = .ok (.aload_n 0, 1) := by decide +kernel
theorem dX0_signRead_11 : decode cX0_signRead 11 = .ok (.getfield 11, 3) := by decide +kernel
theorem dX0_signRead_14 : decode cX0_signRead 14 = .ok (.iload_n 3, 1) := by decide +kernel
theorem dX0_signRead_15 : decode cX0_signRead 15 = .ok (.aaload, 1) := by decide +kernel
theorem dX0_signRead_16 : decode cX0_signRead 16 = .ok (.invokevirtual 92, 3) := by decide +kernel
theorem dX0_signRead_19 : decode cX0_signRead 19 = .ok (.ifCond .eq 8, 3) := by decide +kernel
theorem dX0_signRead_22 : decode cX0_signRead 22 = .ok (.iload_n 3, 1) := by decide +kernel
theorem dX0_signRead_23 : decode cX0_signRead 23 = .ok (.invokestatic 20, 3) := by decide +kernel
theorem dX0_signRead_26 : decode cX0_signRead 26 = .ok (.ireturn, 1) := by decide +kernel
theorem dX0_signRead_27 : decode cX0_signRead 27 = .ok (.iinc 3 1, 3) := by decide +kernel
theorem dX0_signRead_30 : decode cX0_signRead 30 = .ok (.goto (-28), 3) := by decide +kernel
theorem dX0_signRead_33 : decode cX0_signRead 33 = .ok (.iconst 0, 1) := by decide +kernel
theorem dX0_signRead_34 : decode cX0_signRead 34 = .ok (.ireturn, 1) := by decide +kernel
theorem dX1_init_0 : decode cX1_init 0 = .ok (.aload_n 0, 1) := by decide +kernel
theorem dX1_init_1 : decode cX1_init 1 = .ok (.invokespecial 3, 3) := by decide +kernel
theorem dX1_init_4 : decode cX1_init 4 = .ok (.aload_n 0, 1) := by decide +kernel
theorem dX1_init_5 : decode cX1_init 5 = .ok (.bipush 25, 2) := by decide +kernel
theorem dX1_init_7 : decode cX1_init 7 = .ok (.newarray .int, 2) := by decide +kernel
theorem dX1_init_9 : decode cX1_init 9 = .ok (.putfield 9, 3) := by decide +kernel
theorem dX1_init_12 : decode cX1_init 12 = .ok (.aload_n 0, 1) := by decide +kernel
theorem dX1_init_13 : decode cX1_init 13 = .ok (.bipush 25, 2) := by decide +kernel
theorem dX1_init_15 : decode cX1_init 15 = .ok (.newarray .long, 2) := by decide +kernel
theorem dX1_init_17 : decode cX1_init 17 = .ok (.putfield 15, 3) := by decide +kernel
theorem dX1_init_20 : decode cX1_init 20 = .ok (.aload_n 0, 1) := by decide +kernel
theorem dX1_init_21 : decode cX1_init 21 = .ok (.bipush 25, 2) := by decide +kernel
theorem dX1_init_23 : decode cX1_init 23 = .ok (.newarray .int, 2) := by decide +kernel
theorem dX1_init_25 : decode cX1_init 25 = .ok (.putfield 19, 3) := by decide +kernel
theorem dX1_init_28 : decode cX1_init 28 = .ok (.aload_n 0, 1) := by decide +kernel
theorem dX1_init_29 : decode cX1_init 29 = .ok (.iconst 0, 1) := by decide +kernel
theorem dX1_init_30 : decode cX1_init 30 = .ok (.putfield 22, 3) := by decide +kernel
theorem dX1_init_33 : decode cX1_init 33 = .ok (.return_, 1) := by decide +kernel
set_option maxRecDepth 20000 in
theorem ggX1_look_X2_size : GoodIn wsX1_look wsX2_size := goodIn_r _ [11, 12, 34, 35] (by decide +kernel) (by decide +kernel)
set_option maxRecDepth 20000 in
theorem gX1_look_X2_size : GoodIn wsX1_look (wsV RX1 26 RX2 yX2_size wsX2_size) := goodIn_app (goodIn_of _ (by decide +kernel)) ggX1_look_X2_size
set_option maxRecDepth 20000 in
theorem ggX1_look_X4_size : GoodIn wsX1_look wsX4_size := goodIn_r _ [17, 18, 36, 37, 38, 39] (by decide +kernel) (by decide +kernel)
set_option maxRecDepth 20000 in
theorem gX1_look_X4_size : GoodIn wsX1_look (wsV RX1 37 RX4 yX4_size wsX4_size) := goodIn_app (goodIn_of _ (by decide +kernel)) ggX1_look_X4_size
set_option maxRecDepth 20000 in
theorem ggX1_look_X4_rowAt : GoodIn wsX1_look wsX4_rowAt := goodIn_r _ [22, 18, 23, 24, 36, 37, 38, 39] (by decide +kernel) (by decide +kernel)
set_option maxRecDepth 20000 in
theorem gX1_look_X4_rowAt : GoodIn wsX1_look (wsV RX1 40 RX4 yX4_rowAt wsX4_rowAt) := goodIn_app (goodIn_of _ (by decide +kernel)) ggX1_look_X4_rowAt
set_option maxRecDepth 20000 in
theorem ggX1_look_X2_hasAt : GoodIn wsX1_look wsX2_hasAt := goodIn_r _ [28, 12, 29, 34, 35] (by decide +kernel) (by decide +kernel)
set_option maxRecDepth 20000 in
theorem gX1_look_X2_hasAt : GoodIn wsX1_look (wsV RX1 44 RX2 yX2_hasAt wsX2_hasAt) := goodIn_app (goodIn_of _ (by decide +kernel)) ggX1_look_X2_hasAt
theorem dX1_look_0 : decode cX1_look 0 = .ok (.aload_n 0, 1) := by decide +kernel
theorem dX1_look_1 : decode cX1_look 1 = .ok (.aload_n 1, 1) := by decide +kernel
theorem dX1_look_2 : decode cX1_look 2 = .ok (.invokevirtual 26, 3) := by decide +kernel
theorem dX1_look_5 : decode cX1_look 5 = .ok (.bipush 24, 2) := by decide +kernel
theorem dX1_look_7 : decode cX1_look 7 = .ok (.invokestatic 31, 3) := by decide +kernel
theorem dX1_look_10 : decode cX1_look 10 = .ok (.putfield 22, 3) := by decide +kernel
theorem dX1_look_13 : decode cX1_look 13 = .ok (.iconst 0, 1) := by decide +kernel
theorem dX1_look_14 : decode cX1_look 14 = .ok (.istore_n 3, 1) := by decide +kernel
theorem dX1_look_15 : decode cX1_look 15 = .ok (.iload_n 3, 1) := by decide +kernel
theorem dX1_look_16 : decode cX1_look 16 = .ok (.aload_n 0, 1) := by decide +kernel
theorem dX1_look_17 : decode cX1_look 17 = .ok (.getfield 22, 3) := by decide +kernel
theorem dX1_look_20 : decode cX1_look 20 = .ok (.if_icmp .gt 68, 3) := by decide +kernel
theorem dX1_look_23 : decode cX1_look 23 = .ok (.aload_n 0, 1) := by decide +kernel
theorem dX1_look_24 : decode cX1_look 24 = .ok (.getfield 9, 3) := by decide +kernel
theorem dX1_look_27 : decode cX1_look 27 = .ok (.iload_n 3, 1) := by decide +kernel
theorem dX1_look_28 : decode cX1_look 28 = .ok (.iconst 0, 1) := by decide +kernel
theorem dX1_look_29 : decode cX1_look 29 = .ok (.iastore, 1) := by decide +kernel
theorem dX1_look_30 : decode cX1_look 30 = .ok (.iconst 0, 1) := by decide +kernel
theorem dX1_look_31 : decode cX1_look 31 = .ok (.istore 4, 2) := by decide +kernel
theorem dX1_look_33 : decode cX1_look 33 = .ok (.iload 4, 2) := by decide +kernel
theorem dX1_look_35 : decode cX1_look 35 = .ok (.aload_n 2, 1) := by decide +kernel
theorem dX1_look_36 : decode cX1_look 36 = .ok (.invokevirtual 37, 3) := by decide +kernel
theorem dX1_look_39 : decode cX1_look 39 = .ok (.if_icmp .ge 43, 3) := by decide +kernel
theorem dX1_look_42 : decode cX1_look 42 = .ok (.aload_n 1, 1) := by decide +kernel
theorem dX1_look_43 : decode cX1_look 43 = .ok (.iload_n 3, 1) := by decide +kernel
theorem dX1_look_44 : decode cX1_look 44 = .ok (.aload_n 2, 1) := by decide +kernel
theorem dX1_look_45 : decode cX1_look 45 = .ok (.iload 4, 2) := by decide +kernel
theorem dX1_look_47 : decode cX1_look 47 = .ok (.invokevirtual 40, 3) := by decide +kernel
theorem dX1_look_50 : decode cX1_look 50 = .ok (.invokevirtual 44, 3) := by decide +kernel
theorem dX1_look_53 : decode cX1_look 53 = .ok (.ifCond .eq 23, 3) := by decide +kernel
theorem dX1_look_56 : decode cX1_look 56 = .ok (.aload_n 0, 1) := by decide +kernel
theorem dX1_look_57 : decode cX1_look 57 = .ok (.getfield 9, 3) := by decide +kernel
theorem dX1_look_60 : decode cX1_look 60 = .ok (.iload_n 3, 1) := by decide +kernel
theorem dX1_look_61 : decode cX1_look 61 = .ok (.dup2, 1) := by decide +kernel
theorem dX1_look_62 : decode cX1_look 62 = .ok (.iaload, 1) := by decide +kernel
theorem dX1_look_63 : decode cX1_look 63 = .ok (.iconst 1, 1) := by decide +kernel
theorem dX1_look_64 : decode cX1_look 64 = .ok (.aload_n 2, 1) := by decide +kernel
theorem dX1_look_65 : decode cX1_look 65 = .ok (.iload 4, 2) := by decide +kernel
theorem dX1_look_67 : decode cX1_look 67 = .ok (.invokevirtual 40, 3) := by decide +kernel
theorem dX1_look_70 : decode cX1_look 70 = .ok (.invokevirtual 26, 3) := by decide +kernel
theorem dX1_look_73 : decode cX1_look 73 = .ok (.ishl, 1) := by decide +kernel
theorem dX1_look_74 : decode cX1_look 74 = .ok (.ior, 1) := by decide +kernel
theorem dX1_look_75 : decode cX1_look 75 = .ok (.iastore, 1) := by decide +kernel
theorem dX1_look_76 : decode cX1_look 76 = .ok (.iinc 4 1, 3) := by decide +kernel
theorem dX1_look_79 : decode cX1_look 79 = .ok (.goto (-46), 3) := by decide +kernel
theorem dX1_look_82 : decode cX1_look 82 = .ok (.iinc 3 1, 3) := by decide +kernel
theorem dX1_look_85 : decode cX1_look 85 = .ok (.goto (-70), 3) := by decide +kernel
theorem dX1_look_88 : decode cX1_look 88 = .ok (.return_, 1) := by decide +kernel
theorem dX1_fitsAt_0 : decode cX1_fitsAt 0 = .ok (.iload_n 1, 1) := by decide +kernel
theorem dX1_fitsAt_1 : decode cX1_fitsAt 1 = .ok (.ifCond .lt 30, 3) := by decide +kernel
theorem dX1_fitsAt_4 : decode cX1_fitsAt 4 = .ok (.iload_n 1, 1) := by decide +kernel
theorem dX1_fitsAt_5 : decode cX1_fitsAt 5 = .ok (.iload_n 2, 1) := by decide +kernel
theorem dX1_fitsAt_6 : decode cX1_fitsAt 6 = .ok (.iadd, 1) := by decide +kernel
theorem dX1_fitsAt_7 : decode cX1_fitsAt 7 = .ok (.aload_n 0, 1) := by decide +kernel
theorem dX1_fitsAt_8 : decode cX1_fitsAt 8 = .ok (.getfield 22, 3) := by decide +kernel
theorem dX1_fitsAt_11 : decode cX1_fitsAt 11 = .ok (.if_icmp .gt 20, 3) := by decide +kernel
theorem dX1_fitsAt_14 : decode cX1_fitsAt 14 = .ok (.aload_n 0, 1) := by decide +kernel
theorem dX1_fitsAt_15 : decode cX1_fitsAt 15 = .ok (.getfield 9, 3) := by decide +kernel
theorem dX1_fitsAt_18 : decode cX1_fitsAt 18 = .ok (.iload_n 1, 1) := by decide +kernel
theorem dX1_fitsAt_19 : decode cX1_fitsAt 19 = .ok (.iaload, 1) := by decide +kernel
theorem dX1_fitsAt_20 : decode cX1_fitsAt 20 = .ok (.iconst 1, 1) := by decide +kernel
theorem dX1_fitsAt_21 : decode cX1_fitsAt 21 = .ok (.iload_n 2, 1) := by decide +kernel
theorem dX1_fitsAt_22 : decode cX1_fitsAt 22 = .ok (.ishl, 1) := by decide +kernel
theorem dX1_fitsAt_23 : decode cX1_fitsAt 23 = .ok (.iand, 1) := by decide +kernel
theorem dX1_fitsAt_24 : decode cX1_fitsAt 24 = .ok (.ifCond .eq 7, 3) := by decide +kernel
theorem dX1_fitsAt_27 : decode cX1_fitsAt 27 = .ok (.iconst 1, 1) := by decide +kernel
theorem dX1_fitsAt_28 : decode cX1_fitsAt 28 = .ok (.goto 4, 3) := by decide +kernel
theorem dX1_fitsAt_31 : decode cX1_fitsAt 31 = .ok (.iconst 0, 1) := by decide +kernel
theorem dX1_fitsAt_32 : decode cX1_fitsAt 32 = .ok (.ireturn, 1) := by decide +kernel
set_option maxRecDepth 20000 in
theorem ggX1_longestFit_X1_fitsAt : GoodIn wsX1_longestFit wsX1_fitsAt := goodIn_r _ [5, 6, 7, 8, 9, 10, 11] (by decide +kernel) (by decide +kernel)
set_option maxRecDepth 20000 in
theorem gX1_longestFit_X1_fitsAt : GoodIn wsX1_longestFit (wsV RX1 48 RX1 yX1_fitsAt wsX1_fitsAt) := goodIn_app (goodIn_of _ (by decide +kernel)) ggX1_longestFit_X1_fitsAt
theorem dX1_longestFit_0 : decode cX1_longestFit 0 = .ok (.bipush 10, 2) := by decide +kernel
theorem dX1_longestFit_2 : decode cX1_longestFit 2 = .ok (.istore_n 2, 1) := by decide +kernel
theorem dX1_longestFit_3 : decode cX1_longestFit 3 = .ok (.iload_n 2, 1) := by decide +kernel
theorem dX1_longestFit_4 : decode cX1_longestFit 4 = .ok (.ifCond .le 18, 3) := by decide +kernel
theorem dX1_longestFit_7 : decode cX1_longestFit 7 = .ok (.aload_n 0, 1) := by decide +kernel
theorem dX1_longestFit_8 : decode cX1_longestFit 8 = .ok (.iload_n 1, 1) := by decide +kernel
theorem dX1_longestFit_9 : decode cX1_longestFit 9 = .ok (.iload_n 2, 1) := by decide +kernel
theorem dX1_longestFit_10 : decode cX1_longestFit 10 = .ok (.invokevirtual 48, 3) := by decide +kernel
theorem dX1_longestFit_13 : decode cX1_longestFit 13 = .ok (.ifCond .ne 9, 3) := by decide +kernel
theorem dX1_longestFit_16 : decode cX1_longestFit 16 = .ok (.iinc 2 (-1), 3) := by decide +kernel
theorem dX1_longestFit_19 : decode cX1_longestFit 19 = .ok (.goto (-16), 3) := by decide +kernel
theorem dX1_longestFit_22 : decode cX1_longestFit 22 = .ok (.iload_n 2, 1) := by decide +kernel
theorem dX1_longestFit_23 : decode cX1_longestFit 23 = .ok (.ireturn, 1) := by decide +kernel
set_option maxRecDepth 20000 in
theorem ggX1_countLongest_X1_longestFit : GoodIn wsX1_countLongest wsX1_longestFit := goodIn_r _ [6, 7, 8, 9, 5, 10, 1, 11, 12, 13, 14, 15] (by decide +kernel) (by decide +kernel)
set_option maxRecDepth 20000 in
theorem gX1_countLongest_X1_longestFit : GoodIn wsX1_countLongest (wsV RX1 52 RX1 yX1_longestFit wsX1_longestFit) := goodIn_app (goodIn_of _ (by decide +kernel)) ggX1_countLongest_X1_longestFit
theorem dX1_countLongest_0 : decode cX1_countLongest 0 = .ok (.iconst 0, 1) := by decide +kernel
theorem dX1_countLongest_1 : decode cX1_countLongest 1 = .ok (.istore_n 1, 1) := by decide +kernel
theorem dX1_countLongest_2 : decode cX1_countLongest 2 = .ok (.iconst 0, 1) := by decide +kernel
theorem dX1_countLongest_3 : decode cX1_countLongest 3 = .ok (.istore_n 2, 1) := by decide +kernel
theorem dX1_countLongest_4 : decode cX1_countLongest 4 = .ok (.iload_n 2, 1) := by decide +kernel
theorem dX1_countLongest_5 : decode cX1_countLongest 5 = .ok (.aload_n 0, 1) := by decide +kernel
theorem dX1_countLongest_6 : decode cX1_countLongest 6 = .ok (.getfield 22, 3) := by decide +kernel
theorem dX1_countLongest_9 : decode cX1_countLongest 9 = .ok (.if_icmp .ge 25, 3) := by decide +kernel
theorem dX1_countLongest_12 : decode cX1_countLongest 12 = .ok (.aload_n 0, 1) := by decide +kernel
theorem dX1_countLongest_13 : decode cX1_countLongest 13 = .ok (.iload_n 1, 1) := by decide +kernel
theorem dX1_countLongest_14 : decode cX1_countLongest 14 = .ok (.invokevirtual 52, 3) := by decide +kernel
theorem dX1_countLongest_17 : decode cX1_countLongest 17 = .ok (.ifCond .le 17, 3) := by decide +kernel
theorem dX1_countLongest_20 : decode cX1_countLongest 20 = .ok (.iload_n 1, 1) := by decide +kernel
theorem dX1_countLongest_21 : decode cX1_countLongest 21 = .ok (.aload_n 0, 1) := by decide +kernel
theorem dX1_countLongest_22 : decode cX1_countLongest 22 = .ok (.iload_n 1, 1) := by decide +kernel
theorem dX1_countLongest_23 : decode cX1_countLongest 23 = .ok (.invokevirtual 52, 3) := by decide +kernel
theorem dX1_countLongest_26 : decode cX1_countLongest 26 = .ok (.iadd, 1) := by decide +kernel
theorem dX1_countLongest_27 : decode cX1_countLongest 27 = .ok (.istore_n 1, 1) := by decide +kernel
theorem dX1_countLongest_28 : decode cX1_countLongest 28 = .ok (.iinc 2 1, 3) := by decide +kernel
theorem dX1_countLongest_31 : decode cX1_countLongest 31 = .ok (.goto (-27), 3) := by decide +kernel
theorem dX1_countLongest_34 : decode cX1_countLongest 34 = .ok (.iload_n 1, 1) := by decide +kernel
theorem dX1_countLongest_35 : decode cX1_countLongest 35 = .ok (.aload_n 0, 1) := by decide +kernel
theorem dX1_countLongest_36 : decode cX1_countLongest 36 = .ok (.getfield 22, 3) := by decide +kernel
theorem dX1_countLongest_39 : decode cX1_countLongest 39 = .ok (.if_icmp .ne 7, 3) := by decide +kernel
theorem dX1_countLongest_42 : decode cX1_countLongest 42 = .ok (.iload_n 2, 1) := by decide +kernel
theorem dX1_countLongest_43 : decode cX1_countLongest 43 = .ok (.goto 6, 3) := by decide +kernel
theorem dX1_countLongest_46 : decode cX1_countLongest 46 = .ok (.iconst (-1), 1) := by decide +kernel
theorem dX1_countLongest_47 : decode cX1_countLongest 47 = .ok (.iload_n 1, 1) := by decide +kernel
theorem dX1_countLongest_48 : decode cX1_countLongest 48 = .ok (.isub, 1) := by decide +kernel
theorem dX1_countLongest_49 : decode cX1_countLongest 49 = .ok (.ireturn, 1) := by decide +kernel
set_option maxRecDepth 20000 in
theorem ggX1_sizeOfLongest_X1_longestFit : GoodIn wsX1_sizeOfLongest wsX1_longestFit := goodIn_r _ [6, 7, 8, 9, 5, 10, 1, 11, 12, 13, 14, 15] (by decide +kernel) (by decide +kernel)
set_option maxRecDepth 20000 in
theorem gX1_sizeOfLongest_X1_longestFit : GoodIn wsX1_sizeOfLongest (wsV RX1 52 RX1 yX1_longestFit wsX1_longestFit) := goodIn_app (goodIn_of _ (by decide +kernel)) ggX1_sizeOfLongest_X1_longestFit
theorem dX1_sizeOfLongest_0 : decode cX1_sizeOfLongest 0 = .ok (.iload_n 1, 1) := by decide +kernel
theorem dX1_sizeOfLongest_1 : decode cX1_sizeOfLongest 1 = .ok (.ifCond .lt 11, 3) := by decide +kernel
theorem dX1_sizeOfLongest_4 : decode cX1_sizeOfLongest 4 = .ok (.iload_n 1, 1) := by decide +kernel
theorem dX1_sizeOfLongest_5 : decode cX1_sizeOfLongest 5 = .ok (.aload_n 0, 1) := by decide +kernel
theorem dX1_sizeOfLongest_6 : decode cX1_sizeOfLongest 6 = .ok (.getfield 22, 3) := by decide +kernel
theorem dX1_sizeOfLongest_9 : decode cX1_sizeOfLongest 9 = .ok (.if_icmp .lt 5, 3) := by decide +kernel
theorem dX1_sizeOfLongest_12 : decode cX1_sizeOfLongest 12 = .ok (.iconst 0, 1) := by decide +kernel
theorem dX1_sizeOfLongest_13 : decode cX1_sizeOfLongest 13 = .ok (.ireturn, 1) := by decide +kernel
theorem dX1_sizeOfLongest_14 : decode cX1_sizeOfLongest 14 = .ok (.iconst 0, 1) := by decide +kernel
theorem dX1_sizeOfLongest_15 : decode cX1_sizeOfLongest 15 = .ok (.istore_n 2, 1) := by decide +kernel
theorem dX1_sizeOfLongest_16 : decode cX1_sizeOfLongest 16 = .ok (.iconst 0, 1) := by decide +kernel
theorem dX1_sizeOfLongest_17 : decode cX1_sizeOfLongest 17 = .ok (.istore_n 3, 1) := by decide +kernel
theorem dX1_sizeOfLongest_18 : decode cX1_sizeOfLongest 18 = .ok (.iload_n 3, 1) := by decide +kernel
theorem dX1_sizeOfLongest_19 : decode cX1_sizeOfLongest 19 = .ok (.iload_n 1, 1) := by decide +kernel
theorem dX1_sizeOfLongest_20 : decode cX1_sizeOfLongest 20 = .ok (.if_icmp .ge 17, 3) := by decide +kernel
theorem dX1_sizeOfLongest_23 : decode cX1_sizeOfLongest 23 = .ok (.iload_n 2, 1) := by decide +kernel
theorem dX1_sizeOfLongest_24 : decode cX1_sizeOfLongest 24 = .ok (.aload_n 0, 1) := by decide +kernel
theorem dX1_sizeOfLongest_25 : decode cX1_sizeOfLongest 25 = .ok (.iload_n 2, 1) := by decide +kernel
theorem dX1_sizeOfLongest_26 : decode cX1_sizeOfLongest 26 = .ok (.invokevirtual 52, 3) := by decide +kernel
theorem dX1_sizeOfLongest_29 : decode cX1_sizeOfLongest 29 = .ok (.iadd, 1) := by decide +kernel
theorem dX1_sizeOfLongest_30 : decode cX1_sizeOfLongest 30 = .ok (.istore_n 2, 1) := by decide +kernel
theorem dX1_sizeOfLongest_31 : decode cX1_sizeOfLongest 31 = .ok (.iinc 3 1, 3) := by decide +kernel
theorem dX1_sizeOfLongest_34 : decode cX1_sizeOfLongest 34 = .ok (.goto (-16), 3) := by decide +kernel
theorem dX1_sizeOfLongest_37 : decode cX1_sizeOfLongest 37 = .ok (.aload_n 0, 1) := by decide +kernel
theorem dX1_sizeOfLongest_38 : decode cX1_sizeOfLongest 38 = .ok (.iload_n 2, 1) := by decide +kernel
theorem dX1_sizeOfLongest_39 : decode cX1_sizeOfLongest 39 = .ok (.invokevirtual 52, 3) := by decide +kernel
theorem dX1_sizeOfLongest_42 : decode cX1_sizeOfLongest 42 = .ok (.ireturn, 1) := by decide +kernel
set_option maxRecDepth 20000 in
theorem ggX1_countWays_X1_fitsAt : GoodIn wsX1_countWays wsX1_fitsAt := goodIn_r _ [7, 1, 8, 9, 10, 11, 12] (by decide +kernel) (by decide +kernel)
set_option maxRecDepth 20000 in
theorem gX1_countWays_X1_fitsAt : GoodIn wsX1_countWays (wsV RX1 48 RX1 yX1_fitsAt wsX1_fitsAt) := goodIn_app (goodIn_of _ (by decide +kernel)) ggX1_countWays_X1_fitsAt
theorem dX1_countWays_0 : decode cX1_countWays 0 = .ok (.iload_n 1, 1) := by decide +kernel
theorem dX1_countWays_1 : decode cX1_countWays 1 = .ok (.ifCond .lt 11, 3) := by decide +kernel
theorem dX1_countWays_4 : decode cX1_countWays 4 = .ok (.iload_n 1, 1) := by decide +kernel
theorem dX1_countWays_5 : decode cX1_countWays 5 = .ok (.aload_n 0, 1) := by decide +kernel
theorem dX1_countWays_6 : decode cX1_countWays 6 = .ok (.getfield 22, 3) := by decide +kernel
theorem dX1_countWays_9 : decode cX1_countWays 9 = .ok (.if_icmp .le 5, 3) := by decide +kernel
theorem dX1_countWays_12 : decode cX1_countWays 12 = .ok (.lconst 0, 1) := by decide +kernel
theorem dX1_countWays_13 : decode cX1_countWays 13 = .ok (.lreturn, 1) := by decide +kernel
theorem dX1_countWays_14 : decode cX1_countWays 14 = .ok (.iload_n 1, 1) := by decide +kernel
theorem dX1_countWays_15 : decode cX1_countWays 15 = .ok (.istore_n 2, 1) := by decide +kernel
theorem dX1_countWays_16 : decode cX1_countWays 16 = .ok (.iload_n 2, 1) := by decide +kernel
theorem dX1_countWays_17 : decode cX1_countWays 17 = .ok (.aload_n 0, 1) := by decide +kernel
theorem dX1_countWays_18 : decode cX1_countWays 18 = .ok (.getfield 22, 3) := by decide +kernel
theorem dX1_countWays_21 : decode cX1_countWays 21 = .ok (.if_icmp .gt 25, 3) := by decide +kernel
theorem dX1_countWays_24 : decode cX1_countWays 24 = .ok (.aload_n 0, 1) := by decide +kernel
theorem dX1_countWays_25 : decode cX1_countWays 25 = .ok (.getfield 15, 3) := by decide +kernel
theorem dX1_countWays_28 : decode cX1_countWays 28 = .ok (.iload_n 2, 1) := by decide +kernel
theorem dX1_countWays_29 : decode cX1_countWays 29 = .ok (.iload_n 2, 1) := by decide +kernel
theorem dX1_countWays_30 : decode cX1_countWays 30 = .ok (.iload_n 1, 1) := by decide +kernel
theorem dX1_countWays_31 : decode cX1_countWays 31 = .ok (.if_icmp .ne 7, 3) := by decide +kernel
theorem dX1_countWays_34 : decode cX1_countWays 34 = .ok (.lconst 1, 1) := by decide +kernel
theorem dX1_countWays_35 : decode cX1_countWays 35 = .ok (.goto 4, 3) := by decide +kernel
theorem dX1_countWays_38 : decode cX1_countWays 38 = .ok (.lconst 0, 1) := by decide +kernel
theorem dX1_countWays_39 : decode cX1_countWays 39 = .ok (.lastore, 1) := by decide +kernel
theorem dX1_countWays_40 : decode cX1_countWays 40 = .ok (.iinc 2 1, 3) := by decide +kernel
theorem dX1_countWays_43 : decode cX1_countWays 43 = .ok (.goto (-27), 3) := by decide +kernel
theorem dX1_countWays_46 : decode cX1_countWays 46 = .ok (.iload_n 1, 1) := by decide +kernel
theorem dX1_countWays_47 : decode cX1_countWays 47 = .ok (.istore_n 2, 1) := by decide +kernel
theorem dX1_countWays_48 : decode cX1_countWays 48 = .ok (.iload_n 2, 1) := by decide +kernel
theorem dX1_countWays_49 : decode cX1_countWays 49 = .ok (.aload_n 0, 1) := by decide +kernel
theorem dX1_countWays_50 : decode cX1_countWays 50 = .ok (.getfield 22, 3) := by decide +kernel
theorem dX1_countWays_53 : decode cX1_countWays 53 = .ok (.if_icmp .ge 49, 3) := by decide +kernel
theorem dX1_countWays_56 : decode cX1_countWays 56 = .ok (.iconst 1, 1) := by decide +kernel
theorem dX1_countWays_57 : decode cX1_countWays 57 = .ok (.istore_n 3, 1) := by decide +kernel
theorem dX1_countWays_58 : decode cX1_countWays 58 = .ok (.iload_n 3, 1) := by decide +kernel
theorem dX1_countWays_59 : decode cX1_countWays 59 = .ok (.bipush 10, 2) := by decide +kernel
theorem dX1_countWays_61 : decode cX1_countWays 61 = .ok (.if_icmp .gt 35, 3) := by decide +kernel
theorem dX1_countWays_64 : decode cX1_countWays 64 = .ok (.aload_n 0, 1) := by decide +kernel
theorem dX1_countWays_65 : decode cX1_countWays 65 = .ok (.iload_n 2, 1) := by decide +kernel
theorem dX1_countWays_66 : decode cX1_countWays 66 = .ok (.iload_n 3, 1) := by decide +kernel
theorem dX1_countWays_67 : decode cX1_countWays 67 = .ok (.invokevirtual 48, 3) := by decide +kernel
theorem dX1_countWays_70 : decode cX1_countWays 70 = .ok (.ifCond .eq 20, 3) := by decide +kernel
theorem dX1_countWays_73 : decode cX1_countWays 73 = .ok (.aload_n 0, 1) := by decide +kernel
theorem dX1_countWays_74 : decode cX1_countWays 74 = .ok (.getfield 15, 3) := by decide +kernel
theorem dX1_countWays_77 : decode cX1_countWays 77 = .ok (.iload_n 2, 1) := by decide +kernel
theorem dX1_countWays_78 : decode cX1_countWays 78 = .ok (.iload_n 3, 1) := by decide +kernel
theorem dX1_countWays_79 : decode cX1_countWays 79 = .ok (.iadd, 1) := by decide +kernel
theorem dX1_countWays_80 : decode cX1_countWays 80 = .ok (.dup2, 1) := by decide +kernel
theorem dX1_countWays_81 : decode cX1_countWays 81 = .ok (.laload, 1) := by decide +kernel
theorem dX1_countWays_82 : decode cX1_countWays 82 = .ok (.aload_n 0, 1) := by decide +kernel
theorem dX1_countWays_83 : decode cX1_countWays 83 = .ok (.getfield 15, 3) := by decide +kernel
theorem dX1_countWays_86 : decode cX1_countWays 86 = .ok (.iload_n 2, 1) := by decide +kernel
theorem dX1_countWays_87 : decode cX1_countWays 87 = .ok (.laload, 1) := by decide +kernel
theorem dX1_countWays_88 : decode cX1_countWays 88 = .ok (.ladd, 1) := by decide +kernel
theorem dX1_countWays_89 : decode cX1_countWays 89 = .ok (.lastore, 1) := by decide +kernel
theorem dX1_countWays_90 : decode cX1_countWays 90 = .ok (.iinc 3 1, 3) := by decide +kernel
theorem dX1_countWays_93 : decode cX1_countWays 93 = .ok (.goto (-35), 3) := by decide +kernel
theorem dX1_countWays_96 : decode cX1_countWays 96 = .ok (.iinc 2 1, 3) := by decide +kernel
theorem dX1_countWays_99 : decode cX1_countWays 99 = .ok (.goto (-51), 3) := by decide +kernel
theorem dX1_countWays_102 : decode cX1_countWays 102 = .ok (.aload_n 0, 1) := by decide +kernel
theorem dX1_countWays_103 : decode cX1_countWays 103 = .ok (.getfield 15, 3) := by decide +kernel
theorem dX1_countWays_106 : decode cX1_countWays 106 = .ok (.aload_n 0, 1) := by decide +kernel
theorem dX1_countWays_107 : decode cX1_countWays 107 = .ok (.getfield 22, 3) := by decide +kernel
theorem dX1_countWays_110 : decode cX1_countWays 110 = .ok (.laload, 1) := by decide +kernel
theorem dX1_countWays_111 : decode cX1_countWays 111 = .ok (.lreturn, 1) := by decide +kernel
set_option maxRecDepth 20000 in
theorem ggX1_leastPieces_X1_fitsAt : GoodIn wsX1_leastPieces wsX1_fitsAt := goodIn_r _ [7, 2, 8, 16, 17, 18, 19] (by decide +kernel) (by decide +kernel)
set_option maxRecDepth 20000 in
theorem gX1_leastPieces_X1_fitsAt : GoodIn wsX1_leastPieces (wsV RX1 48 RX1 yX1_fitsAt wsX1_fitsAt) := goodIn_app (goodIn_of _ (by decide +kernel)) ggX1_leastPieces_X1_fitsAt
set_option maxRecDepth 20000 in
theorem ggX1_leastPieces_X1_lesser : GoodIn wsX1_leastPieces wsX1_lesser := goodIn_r _ [11, 12, 13, 14, 15] (by decide +kernel) (by decide +kernel)
set_option maxRecDepth 20000 in
theorem gX1_leastPieces_X1_lesser : GoodIn wsX1_leastPieces (va_wsS RX1 56 yX1_lesser wsX1_lesser) := goodIn_app (goodIn_of _ (by decide +kernel)) ggX1_leastPieces_X1_lesser
theorem dX1_leastPieces_0 : decode cX1_leastPieces 0 = .ok (.aload_n 0, 1) := by decide +kernel
theorem dX1_leastPieces_1 : decode cX1_leastPieces 1 = .ok (.getfield 19, 3) := by decide +kernel
theorem dX1_leastPieces_4 : decode cX1_leastPieces 4 = .ok (.iconst 0, 1) := by decide +kernel
theorem dX1_leastPieces_5 : decode cX1_leastPieces 5 = .ok (.iconst 0, 1) := by decide +kernel
theorem dX1_leastPieces_6 : decode cX1_leastPieces 6 = .ok (.iastore, 1) := by decide +kernel
theorem dX1_leastPieces_7 : decode cX1_leastPieces 7 = .ok (.iconst 1, 1) := by decide +kernel
theorem dX1_leastPieces_8 : decode cX1_leastPieces 8 = .ok (.istore_n 1, 1) := by decide +kernel
theorem dX1_leastPieces_9 : decode cX1_leastPieces 9 = .ok (.iload_n 1, 1) := by decide +kernel
theorem dX1_leastPieces_10 : decode cX1_leastPieces 10 = .ok (.aload_n 0, 1) := by decide +kernel
theorem dX1_leastPieces_11 : decode cX1_leastPieces 11 = .ok (.getfield 22, 3) := by decide +kernel
theorem dX1_leastPieces_14 : decode cX1_leastPieces 14 = .ok (.if_icmp .gt 16, 3) := by decide +kernel
theorem dX1_leastPieces_17 : decode cX1_leastPieces 17 = .ok (.aload_n 0, 1) := by decide +kernel
theorem dX1_leastPieces_18 : decode cX1_leastPieces 18 = .ok (.getfield 19, 3) := by decide +kernel
theorem dX1_leastPieces_21 : decode cX1_leastPieces 21 = .ok (.iload_n 1, 1) := by decide +kernel
theorem dX1_leastPieces_22 : decode cX1_leastPieces 22 = .ok (.iconst (-1), 1) := by decide +kernel
theorem dX1_leastPieces_23 : decode cX1_leastPieces 23 = .ok (.iastore, 1) := by decide +kernel
theorem dX1_leastPieces_24 : decode cX1_leastPieces 24 = .ok (.iinc 1 1, 3) := by decide +kernel
theorem dX1_leastPieces_27 : decode cX1_leastPieces 27 = .ok (.goto (-18), 3) := by decide +kernel
theorem dX1_leastPieces_30 : decode cX1_leastPieces 30 = .ok (.iconst 0, 1) := by decide +kernel
theorem dX1_leastPieces_31 : decode cX1_leastPieces 31 = .ok (.istore_n 1, 1) := by decide +kernel
theorem dX1_leastPieces_32 : decode cX1_leastPieces 32 = .ok (.iload_n 1, 1) := by decide +kernel
theorem dX1_leastPieces_33 : decode cX1_leastPieces 33 = .ok (.aload_n 0, 1) := by decide +kernel
theorem dX1_leastPieces_34 : decode cX1_leastPieces 34 = .ok (.getfield 22, 3) := by decide +kernel
theorem dX1_leastPieces_37 : decode cX1_leastPieces 37 = .ok (.if_icmp .ge 69, 3) := by decide +kernel
theorem dX1_leastPieces_40 : decode cX1_leastPieces 40 = .ok (.iconst 1, 1) := by decide +kernel
theorem dX1_leastPieces_41 : decode cX1_leastPieces 41 = .ok (.istore_n 2, 1) := by decide +kernel
theorem dX1_leastPieces_42 : decode cX1_leastPieces 42 = .ok (.iload_n 2, 1) := by decide +kernel
theorem dX1_leastPieces_43 : decode cX1_leastPieces 43 = .ok (.bipush 10, 2) := by decide +kernel
theorem dX1_leastPieces_45 : decode cX1_leastPieces 45 = .ok (.if_icmp .gt 55, 3) := by decide +kernel
theorem dX1_leastPieces_48 : decode cX1_leastPieces 48 = .ok (.aload_n 0, 1) := by decide +kernel
theorem dX1_leastPieces_49 : decode cX1_leastPieces 49 = .ok (.getfield 19, 3) := by decide +kernel
theorem dX1_leastPieces_52 : decode cX1_leastPieces 52 = .ok (.iload_n 1, 1) := by decide +kernel
theorem dX1_leastPieces_53 : decode cX1_leastPieces 53 = .ok (.iaload, 1) := by decide +kernel
theorem dX1_leastPieces_54 : decode cX1_leastPieces 54 = .ok (.iconst (-1), 1) := by decide +kernel
theorem dX1_leastPieces_55 : decode cX1_leastPieces 55 = .ok (.if_icmp .eq 39, 3) := by decide +kernel
theorem dX1_leastPieces_58 : decode cX1_leastPieces 58 = .ok (.aload_n 0, 1) := by decide +kernel
theorem dX1_leastPieces_59 : decode cX1_leastPieces 59 = .ok (.iload_n 1, 1) := by decide +kernel
theorem dX1_leastPieces_60 : decode cX1_leastPieces 60 = .ok (.iload_n 2, 1) := by decide +kernel
theorem dX1_leastPieces_61 : decode cX1_leastPieces 61 = .ok (.invokevirtual 48, 3) := by decide +kernel
theorem dX1_leastPieces_64 : decode cX1_leastPieces 64 = .ok (.ifCond .eq 30, 3) := by decide +kernel
theorem dX1_leastPieces_67 : decode cX1_leastPieces 67 = .ok (.aload_n 0, 1) := by decide +kernel
theorem dX1_leastPieces_68 : decode cX1_leastPieces 68 = .ok (.getfield 19, 3) := by decide +kernel
theorem dX1_leastPieces_71 : decode cX1_leastPieces 71 = .ok (.iload_n 1, 1) := by decide +kernel
theorem dX1_leastPieces_72 : decode cX1_leastPieces 72 = .ok (.iload_n 2, 1) := by decide +kernel
theorem dX1_leastPieces_73 : decode cX1_leastPieces 73 = .ok (.iadd, 1) := by decide +kernel
theorem dX1_leastPieces_74 : decode cX1_leastPieces 74 = .ok (.aload_n 0, 1) := by decide +kernel
theorem dX1_leastPieces_75 : decode cX1_leastPieces 75 = .ok (.getfield 19, 3) := by decide +kernel
theorem dX1_leastPieces_78 : decode cX1_leastPieces 78 = .ok (.iload_n 1, 1) := by decide +kernel
theorem dX1_leastPieces_79 : decode cX1_leastPieces 79 = .ok (.iload_n 2, 1) := by decide +kernel
theorem dX1_leastPieces_80 : decode cX1_leastPieces 80 = .ok (.iadd, 1) := by decide +kernel
theorem dX1_leastPieces_81 : decode cX1_leastPieces 81 = .ok (.iaload, 1) := by decide +kernel
theorem dX1_leastPieces_82 : decode cX1_leastPieces 82 = .ok (.aload_n 0, 1) := by decide +kernel
theorem dX1_leastPieces_83 : decode cX1_leastPieces 83 = .ok (.getfield 19, 3) := by decide +kernel
theorem dX1_leastPieces_86 : decode cX1_leastPieces 86 = .ok (.iload_n 1, 1) := by decide +kernel
theorem dX1_leastPieces_87 : decode cX1_leastPieces 87 = .ok (.iaload, 1) := by decide +kernel
theorem dX1_leastPieces_88 : decode cX1_leastPieces 88 = .ok (.iconst 1, 1) := by decide +kernel
theorem dX1_leastPieces_89 : decode cX1_leastPieces 89 = .ok (.iadd, 1) := by decide +kernel
theorem dX1_leastPieces_90 : decode cX1_leastPieces 90 = .ok (.invokestatic 56, 3) := by decide +kernel
theorem dX1_leastPieces_93 : decode cX1_leastPieces 93 = .ok (.iastore, 1) := by decide +kernel
theorem dX1_leastPieces_94 : decode cX1_leastPieces 94 = .ok (.iinc 2 1, 3) := by decide +kernel
theorem dX1_leastPieces_97 : decode cX1_leastPieces 97 = .ok (.goto (-55), 3) := by decide +kernel
theorem dX1_leastPieces_100 : decode cX1_leastPieces 100 = .ok (.iinc 1 1, 3) := by decide +kernel
theorem dX1_leastPieces_103 : decode cX1_leastPieces 103 = .ok (.goto (-71), 3) := by decide +kernel
theorem dX1_leastPieces_106 : decode cX1_leastPieces 106 = .ok (.aload_n 0, 1) := by decide +kernel
theorem dX1_leastPieces_107 : decode cX1_leastPieces 107 = .ok (.getfield 19, 3) := by decide +kernel
theorem dX1_leastPieces_110 : decode cX1_leastPieces 110 = .ok (.aload_n 0, 1) := by decide +kernel
theorem dX1_leastPieces_111 : decode cX1_leastPieces 111 = .ok (.getfield 22, 3) := by decide +kernel
theorem dX1_leastPieces_114 : decode cX1_leastPieces 114 = .ok (.iaload, 1) := by decide +kernel
theorem dX1_leastPieces_115 : decode cX1_leastPieces 115 = .ok (.ireturn, 1) := by decide +kernel
theorem dX1_lesser_0 : decode cX1_lesser 0 = .ok (.iload_n 0, 1) := by decide +kernel
theorem dX1_lesser_1 : decode cX1_lesser 1 = .ok (.iconst (-1), 1) := by decide +kernel
theorem dX1_lesser_2 : decode cX1_lesser 2 = .ok (.if_icmp .ne 7, 3) := by decide +kernel
theorem dX1_lesser_5 : decode cX1_lesser 5 = .ok (.iload_n 1, 1) := by decide +kernel
theorem dX1_lesser_6 : decode cX1_lesser 6 = .ok (.goto 8, 3) := by decide +kernel
theorem dX1_lesser_9 : decode cX1_lesser 9 = .ok (.iload_n 0, 1) := by decide +kernel
theorem dX1_lesser_10 : decode cX1_lesser 10 = .ok (.iload_n 1, 1) := by decide +kernel
theorem dX1_lesser_11 : decode cX1_lesser 11 = .ok (.invokestatic 31, 3) := by decide +kernel
theorem dX1_lesser_14 : decode cX1_lesser 14 = .ok (.ireturn, 1) := by decide +kernel
theorem dX2_init_0 : decode cX2_init 0 = .ok (.aload_n 0, 1) := by decide +kernel
theorem dX2_init_1 : decode cX2_init 1 = .ok (.invokespecial 3, 3) := by decide +kernel
theorem dX2_init_4 : decode cX2_init 4 = .ok (.aload_n 0, 1) := by decide +kernel
theorem dX2_init_5 : decode cX2_init 5 = .ok (.iload_n 1, 1) := by decide +kernel
theorem dX2_init_6 : decode cX2_init 6 = .ok (.iconst 0, 1) := by decide +kernel
theorem dX2_init_7 : decode cX2_init 7 = .ok (.invokestatic 9, 3) := by decide +kernel
theorem dX2_init_10 : decode cX2_init 10 = .ok (.newarray .char, 2) := by decide +kernel
theorem dX2_init_12 : decode cX2_init 12 = .ok (.putfield 15, 3) := by decide +kernel
theorem dX2_init_15 : decode cX2_init 15 = .ok (.aload_n 0, 1) := by decide +kernel
theorem dX2_init_16 : decode cX2_init 16 = .ok (.iconst 0, 1) := by decide +kernel
theorem dX2_init_17 : decode cX2_init 17 = .ok (.putfield 21, 3) := by decide +kernel
theorem dX2_init_20 : decode cX2_init 20 = .ok (.return_, 1) := by decide +kernel
theorem dX2_size_0 : decode cX2_size 0 = .ok (.aload_n 0, 1) := by decide +kernel
theorem dX2_size_1 : decode cX2_size 1 = .ok (.getfield 21, 3) := by decide +kernel
theorem dX2_size_4 : decode cX2_size 4 = .ok (.ireturn, 1) := by decide +kernel
theorem dX2_at_0 : decode cX2_at 0 = .ok (.iload_n 1, 1) := by decide +kernel
theorem dX2_at_1 : decode cX2_at 1 = .ok (.ifCond .lt 20, 3) := by decide +kernel
theorem dX2_at_4 : decode cX2_at 4 = .ok (.iload_n 1, 1) := by decide +kernel
theorem dX2_at_5 : decode cX2_at 5 = .ok (.aload_n 0, 1) := by decide +kernel
theorem dX2_at_6 : decode cX2_at 6 = .ok (.getfield 21, 3) := by decide +kernel
theorem dX2_at_9 : decode cX2_at 9 = .ok (.if_icmp .ge 12, 3) := by decide +kernel
theorem dX2_at_12 : decode cX2_at 12 = .ok (.aload_n 0, 1) := by decide +kernel
theorem dX2_at_13 : decode cX2_at 13 = .ok (.getfield 15, 3) := by decide +kernel
theorem dX2_at_16 : decode cX2_at 16 = .ok (.iload_n 1, 1) := by decide +kernel
theorem dX2_at_17 : decode cX2_at 17 = .ok (.caload, 1) := by decide +kernel
theorem dX2_at_18 : decode cX2_at 18 = .ok (.goto 4, 3) := by decide +kernel
theorem dX2_at_21 : decode cX2_at 21 = .ok (.iconst 0, 1) := by decide +kernel
theorem dX2_at_22 : decode cX2_at 22 = .ok (.ireturn, 1) := by decide +kernel
theorem dX2_clear_0 : decode cX2_clear 0 = .ok (.aload_n 0, 1) := by decide +kernel
theorem dX2_clear_1 : decode cX2_clear 1 = .ok (.iconst 0, 1) := by decide +kernel
theorem dX2_clear_2 : decode cX2_clear 2 = .ok (.putfield 21, 3) := by decide +kernel
theorem dX2_clear_5 : decode cX2_clear 5 = .ok (.return_, 1) := by decide +kernel
theorem dX2_append_0 : decode cX2_append 0 = .ok (.aload_n 0, 1) := by decide +kernel
theorem dX2_append_1 : decode cX2_append 1 = .ok (.getfield 21, 3) := by decide +kernel
theorem dX2_append_4 : decode cX2_append 4 = .ok (.aload_n 0, 1) := by decide +kernel
theorem dX2_append_5 : decode cX2_append 5 = .ok (.getfield 15, 3) := by decide +kernel
theorem dX2_append_8 : decode cX2_append 8 = .ok (.arraylength, 1) := by decide +kernel
theorem dX2_append_9 : decode cX2_append 9 = .ok (.if_icmp .ge 23, 3) := by decide +kernel
theorem dX2_append_12 : decode cX2_append 12 = .ok (.aload_n 0, 1) := by decide +kernel
theorem dX2_append_13 : decode cX2_append 13 = .ok (.getfield 15, 3) := by decide +kernel
theorem dX2_append_16 : decode cX2_append 16 = .ok (.aload_n 0, 1) := by decide +kernel
theorem dX2_append_17 : decode cX2_append 17 = .ok (.getfield 21, 3) := by decide +kernel
theorem dX2_append_20 : decode cX2_append 20 = .ok (.iload_n 1, 1) := by decide +kernel
theorem dX2_append_21 : decode cX2_append 21 = .ok (.castore, 1) := by decide +kernel
theorem dX2_append_22 : decode cX2_append 22 = .ok (.aload_n 0, 1) := by decide +kernel
theorem dX2_append_23 : decode cX2_append 23 = .ok (.dup, 1) := by decide +kernel
theorem dX2_append_24 : decode cX2_append 24 = .ok (.getfield 21, 3) := by decide +kernel
theorem dX2_append_27 : decode cX2_append 27 = .ok (.iconst 1, 1) := by decide +kernel
theorem dX2_append_28 : decode cX2_append 28 = .ok (.iadd, 1) := by decide +kernel
theorem dX2_append_29 : decode cX2_append 29 = .ok (.putfield 21, 3) := by decide +kernel
theorem dX2_append_32 : decode cX2_append 32 = .ok (.return_, 1) := by decide +kernel
set_option maxRecDepth 20000 in
theorem ggX2_appendAll_X2_append : GoodIn wsX2_appendAll wsX2_append := goodIn_r _ [7, 1, 2, 8, 9] (by decide +kernel) (by decide +kernel)
set_option maxRecDepth 20000 in
theorem gX2_appendAll_X2_append : GoodIn wsX2_appendAll (wsV RX2 25 RX2 yX2_append wsX2_append) := goodIn_app (goodIn_of _ (by decide +kernel)) ggX2_appendAll_X2_append
theorem dX2_appendAll_0 : decode cX2_appendAll 0 = .ok (.iconst 0, 1) := by decide +kernel
theorem dX2_appendAll_1 : decode cX2_appendAll 1 = .ok (.istore_n 2, 1) := by decide +kernel
theorem dX2_appendAll_2 : decode cX2_appendAll 2 = .ok (.iload_n 2, 1) := by decide +kernel
theorem dX2_appendAll_3 : decode cX2_appendAll 3 = .ok (.aload_n 1, 1) := by decide +kernel
theorem dX2_appendAll_4 : decode cX2_appendAll 4 = .ok (.getfield 21, 3) := by decide +kernel
theorem dX2_appendAll_7 : decode cX2_appendAll 7 = .ok (.if_icmp .ge 19, 3) := by decide +kernel
theorem dX2_appendAll_10 : decode cX2_appendAll 10 = .ok (.aload_n 0, 1) := by decide +kernel
theorem dX2_appendAll_11 : decode cX2_appendAll 11 = .ok (.aload_n 1, 1) := by decide +kernel
theorem dX2_appendAll_12 : decode cX2_appendAll 12 = .ok (.getfield 15, 3) := by decide +kernel
theorem dX2_appendAll_15 : decode cX2_appendAll 15 = .ok (.iload_n 2, 1) := by decide +kernel
theorem dX2_appendAll_16 : decode cX2_appendAll 16 = .ok (.caload, 1) := by decide +kernel
theorem dX2_appendAll_17 : decode cX2_appendAll 17 = .ok (.invokevirtual 25, 3) := by decide +kernel
theorem dX2_appendAll_20 : decode cX2_appendAll 20 = .ok (.iinc 2 1, 3) := by decide +kernel
theorem dX2_appendAll_23 : decode cX2_appendAll 23 = .ok (.goto (-21), 3) := by decide +kernel
theorem dX2_appendAll_26 : decode cX2_appendAll 26 = .ok (.return_, 1) := by decide +kernel
theorem dX2_insert_0 : decode cX2_insert 0 = .ok (.iload_n 1, 1) := by decide +kernel
theorem dX2_insert_1 : decode cX2_insert 1 = .ok (.ifCond .lt 23, 3) := by decide +kernel
theorem dX2_insert_4 : decode cX2_insert 4 = .ok (.iload_n 1, 1) := by decide +kernel
theorem dX2_insert_5 : decode cX2_insert 5 = .ok (.aload_n 0, 1) := by decide +kernel
theorem dX2_insert_6 : decode cX2_insert 6 = .ok (.getfield 21, 3) := by decide +kernel
theorem dX2_insert_9 : decode cX2_insert 9 = .ok (.if_icmp .gt 15, 3) := by decide +kernel
theorem dX2_insert_12 : decode cX2_insert 12 = .ok (.aload_n 0, 1) := by decide +kernel
theorem dX2_insert_13 : decode cX2_insert 13 = .ok (.getfield 21, 3) := by decide +kernel
theorem dX2_insert_16 : decode cX2_insert 16 = .ok (.aload_n 0, 1) := by decide +kernel
theorem dX2_insert_17 : decode cX2_insert 17 = .ok (.getfield 15, 3) := by decide +kernel
theorem dX2_insert_20 : decode cX2_insert 20 = .ok (.arraylength, 1) := by decide +kernel
theorem dX2_insert_21 : decode cX2_insert 21 = .ok (.if_icmp .lt 4, 3) := by decide +kernel
theorem dX2_insert_24 : decode cX2_insert 24 = .ok (.return_, 1) := by decide +kernel
theorem dX2_insert_25 : decode cX2_insert 25 = .ok (.aload_n 0, 1) := by decide +kernel
theorem dX2_insert_26 : decode cX2_insert 26 = .ok (.getfield 21, 3) := by decide +kernel
theorem dX2_insert_29 : decode cX2_insert 29 = .ok (.istore_n 3, 1) := by decide +kernel
theorem dX2_insert_30 : decode cX2_insert 30 = .ok (.iload_n 3, 1) := by decide +kernel
theorem dX2_insert_31 : decode cX2_insert 31 = .ok (.iload_n 1, 1) := by decide +kernel
theorem dX2_insert_32 : decode cX2_insert 32 = .ok (.if_icmp .le 23, 3) := by decide +kernel
theorem dX2_insert_35 : decode cX2_insert 35 = .ok (.aload_n 0, 1) := by decide +kernel
theorem dX2_insert_36 : decode cX2_insert 36 = .ok (.getfield 15, 3) := by decide +kernel
theorem dX2_insert_39 : decode cX2_insert 39 = .ok (.iload_n 3, 1) := by decide +kernel
theorem dX2_insert_40 : decode cX2_insert 40 = .ok (.aload_n 0, 1) := by decide +kernel
theorem dX2_insert_41 : decode cX2_insert 41 = .ok (.getfield 15, 3) := by decide +kernel
theorem dX2_insert_44 : decode cX2_insert 44 = .ok (.iload_n 3, 1) := by decide +kernel
theorem dX2_insert_45 : decode cX2_insert 45 = .ok (.iconst 1, 1) := by decide +kernel
theorem dX2_insert_46 : decode cX2_insert 46 = .ok (.isub, 1) := by decide +kernel
theorem dX2_insert_47 : decode cX2_insert 47 = .ok (.caload, 1) := by decide +kernel
theorem dX2_insert_48 : decode cX2_insert 48 = .ok (.castore, 1) := by decide +kernel
theorem dX2_insert_49 : decode cX2_insert 49 = .ok (.iinc 3 (-1), 3) := by decide +kernel
theorem dX2_insert_52 : decode cX2_insert 52 = .ok (.goto (-22), 3) := by decide +kernel
theorem dX2_insert_55 : decode cX2_insert 55 = .ok (.aload_n 0, 1) := by decide +kernel
theorem dX2_insert_56 : decode cX2_insert 56 = .ok (.getfield 15, 3) := by decide +kernel
theorem dX2_insert_59 : decode cX2_insert 59 = .ok (.iload_n 1, 1) := by decide +kernel
theorem dX2_insert_60 : decode cX2_insert 60 = .ok (.iload_n 2, 1) := by decide +kernel
theorem dX2_insert_61 : decode cX2_insert 61 = .ok (.castore, 1) := by decide +kernel
theorem dX2_insert_62 : decode cX2_insert 62 = .ok (.aload_n 0, 1) := by decide +kernel
theorem dX2_insert_63 : decode cX2_insert 63 = .ok (.dup, 1) := by decide +kernel
theorem dX2_insert_64 : decode cX2_insert 64 = .ok (.getfield 21, 3) := by decide +kernel
theorem dX2_insert_67 : decode cX2_insert 67 = .ok (.iconst 1, 1) := by decide +kernel
theorem dX2_insert_68 : decode cX2_insert 68 = .ok (.iadd, 1) := by decide +kernel
theorem dX2_insert_69 : decode cX2_insert 69 = .ok (.putfield 21, 3) := by decide +kernel
theorem dX2_insert_72 : decode cX2_insert 72 = .ok (.return_, 1) := by decide +kernel
theorem dX2_removePart_0 : decode cX2_removePart 0 = .ok (.iload_n 1, 1) := by decide +kernel
theorem dX2_removePart_1 : decode cX2_removePart 1 = .ok (.ifCond .lt 16, 3) := by decide +kernel
theorem dX2_removePart_4 : decode cX2_removePart 4 = .ok (.iload_n 2, 1) := by decide +kernel
theorem dX2_removePart_5 : decode cX2_removePart 5 = .ok (.iload_n 1, 1) := by decide +kernel
theorem dX2_removePart_6 : decode cX2_removePart 6 = .ok (.if_icmp .lt 11, 3) := by decide +kernel
theorem dX2_removePart_9 : decode cX2_removePart 9 = .ok (.iload_n 2, 1) := by decide +kernel
theorem dX2_removePart_10 : decode cX2_removePart 10 = .ok (.aload_n 0, 1) := by decide +kernel
theorem dX2_removePart_11 : decode cX2_removePart 11 = .ok (.getfield 21, 3) := by decide +kernel
theorem dX2_removePart_14 : decode cX2_removePart 14 = .ok (.if_icmp .le 4, 3) := by decide +kernel
theorem dX2_removePart_17 : decode cX2_removePart 17 = .ok (.return_, 1) := by decide +kernel
theorem dX2_removePart_18 : decode cX2_removePart 18 = .ok (.iload_n 2, 1) := by decide +kernel
theorem dX2_removePart_19 : decode cX2_removePart 19 = .ok (.iload_n 1, 1) := by decide +kernel
theorem dX2_removePart_20 : decode cX2_removePart 20 = .ok (.isub, 1) := by decide +kernel
theorem dX2_removePart_21 : decode cX2_removePart 21 = .ok (.istore_n 3, 1) := by decide +kernel
theorem dX2_removePart_22 : decode cX2_removePart 22 = .ok (.iload_n 2, 1) := by decide +kernel
theorem dX2_removePart_23 : decode cX2_removePart 23 = .ok (.istore 4, 2) := by decide +kernel
theorem dX2_removePart_25 : decode cX2_removePart 25 = .ok (.iload 4, 2) := by decide +kernel
theorem dX2_removePart_27 : decode cX2_removePart 27 = .ok (.aload_n 0, 1) := by decide +kernel
theorem dX2_removePart_28 : decode cX2_removePart 28 = .ok (.getfield 21, 3) := by decide +kernel
theorem dX2_removePart_31 : decode cX2_removePart 31 = .ok (.if_icmp .ge 25, 3) := by decide +kernel
theorem dX2_removePart_34 : decode cX2_removePart 34 = .ok (.aload_n 0, 1) := by decide +kernel
theorem dX2_removePart_35 : decode cX2_removePart 35 = .ok (.getfield 15, 3) := by decide +kernel
theorem dX2_removePart_38 : decode cX2_removePart 38 = .ok (.iload 4, 2) := by decide +kernel
theorem dX2_removePart_40 : decode cX2_removePart 40 = .ok (.iload_n 3, 1) := by decide +kernel
theorem dX2_removePart_41 : decode cX2_removePart 41 = .ok (.isub, 1) := by decide +kernel
theorem dX2_removePart_42 : decode cX2_removePart 42 = .ok (.aload_n 0, 1) := by decide +kernel
theorem dX2_removePart_43 : decode cX2_removePart 43 = .ok (.getfield 15, 3) := by decide +kernel
theorem dX2_removePart_46 : decode cX2_removePart 46 = .ok (.iload 4, 2) := by decide +kernel
theorem dX2_removePart_48 : decode cX2_removePart 48 = .ok (.caload, 1) := by decide +kernel
theorem dX2_removePart_49 : decode cX2_removePart 49 = .ok (.castore, 1) := by decide +kernel
theorem dX2_removePart_50 : decode cX2_removePart 50 = .ok (.iinc 4 1, 3) := by decide +kernel
theorem dX2_removePart_53 : decode cX2_removePart 53 = .ok (.goto (-28), 3) := by decide +kernel
theorem dX2_removePart_56 : decode cX2_removePart 56 = .ok (.aload_n 0, 1) := by decide +kernel
theorem dX2_removePart_57 : decode cX2_removePart 57 = .ok (.dup, 1) := by decide +kernel
theorem dX2_removePart_58 : decode cX2_removePart 58 = .ok (.getfield 21, 3) := by decide +kernel
theorem dX2_removePart_61 : decode cX2_removePart 61 = .ok (.iload_n 3, 1) := by decide +kernel
theorem dX2_removePart_62 : decode cX2_removePart 62 = .ok (.isub, 1) := by decide +kernel
theorem dX2_removePart_63 : decode cX2_removePart 63 = .ok (.putfield 21, 3) := by decide +kernel
theorem dX2_removePart_66 : decode cX2_removePart 66 = .ok (.return_, 1) := by decide +kernel
theorem dX2_reverse_0 : decode cX2_reverse 0 = .ok (.iconst 1, 1) := by decide +kernel
theorem dX2_reverse_1 : decode cX2_reverse 1 = .ok (.istore_n 1, 1) := by decide +kernel
theorem dX2_reverse_2 : decode cX2_reverse 2 = .ok (.iconst 0, 1) := by decide +kernel
theorem dX2_reverse_3 : decode cX2_reverse 3 = .ok (.istore_n 2, 1) := by decide +kernel
theorem dX2_reverse_4 : decode cX2_reverse 4 = .ok (.iload_n 2, 1) := by decide +kernel
theorem dX2_reverse_5 : decode cX2_reverse 5 = .ok (.aload_n 0, 1) := by decide +kernel
theorem dX2_reverse_6 : decode cX2_reverse 6 = .ok (.getfield 21, 3) := by decide +kernel
theorem dX2_reverse_9 : decode cX2_reverse 9 = .ok (.iconst 2, 1) := by decide +kernel
theorem dX2_reverse_10 : decode cX2_reverse 10 = .ok (.idiv, 1) := by decide +kernel
theorem dX2_reverse_11 : decode cX2_reverse 11 = .ok (.if_icmp .ge 67, 3) := by decide +kernel
theorem dX2_reverse_14 : decode cX2_reverse 14 = .ok (.aload_n 0, 1) := by decide +kernel
theorem dX2_reverse_15 : decode cX2_reverse 15 = .ok (.getfield 21, 3) := by decide +kernel
theorem dX2_reverse_18 : decode cX2_reverse 18 = .ok (.iconst 1, 1) := by decide +kernel
theorem dX2_reverse_19 : decode cX2_reverse 19 = .ok (.isub, 1) := by decide +kernel
theorem dX2_reverse_20 : decode cX2_reverse 20 = .ok (.iload_n 2, 1) := by decide +kernel
theorem dX2_reverse_21 : decode cX2_reverse 21 = .ok (.isub, 1) := by decide +kernel
theorem dX2_reverse_22 : decode cX2_reverse 22 = .ok (.istore_n 3, 1) := by decide +kernel
theorem dX2_reverse_23 : decode cX2_reverse 23 = .ok (.aload_n 0, 1) := by decide +kernel
theorem dX2_reverse_24 : decode cX2_reverse 24 = .ok (.getfield 15, 3) := by decide +kernel
theorem dX2_reverse_27 : decode cX2_reverse 27 = .ok (.iload_n 2, 1) := by decide +kernel
theorem dX2_reverse_28 : decode cX2_reverse 28 = .ok (.caload, 1) := by decide +kernel
theorem dX2_reverse_29 : decode cX2_reverse 29 = .ok (.istore 4, 2) := by decide +kernel
theorem dX2_reverse_31 : decode cX2_reverse 31 = .ok (.iload_n 1, 1) := by decide +kernel
theorem dX2_reverse_32 : decode cX2_reverse 32 = .ok (.ifCond .eq 18, 3) := by decide +kernel
theorem dX2_reverse_35 : decode cX2_reverse 35 = .ok (.iload 4, 2) := by decide +kernel
theorem dX2_reverse_37 : decode cX2_reverse 37 = .ok (.aload_n 0, 1) := by decide +kernel
theorem dX2_reverse_38 : decode cX2_reverse 38 = .ok (.getfield 15, 3) := by decide +kernel
theorem dX2_reverse_41 : decode cX2_reverse 41 = .ok (.iload_n 3, 1) := by decide +kernel
theorem dX2_reverse_42 : decode cX2_reverse 42 = .ok (.caload, 1) := by decide +kernel
theorem dX2_reverse_43 : decode cX2_reverse 43 = .ok (.if_icmp .ne 7, 3) := by decide +kernel
theorem dX2_reverse_46 : decode cX2_reverse 46 = .ok (.iconst 1, 1) := by decide +kernel
theorem dX2_reverse_47 : decode cX2_reverse 47 = .ok (.goto 4, 3) := by decide +kernel
theorem dX2_reverse_50 : decode cX2_reverse 50 = .ok (.iconst 0, 1) := by decide +kernel
theorem dX2_reverse_51 : decode cX2_reverse 51 = .ok (.istore_n 1, 1) := by decide +kernel
theorem dX2_reverse_52 : decode cX2_reverse 52 = .ok (.aload_n 0, 1) := by decide +kernel
theorem dX2_reverse_53 : decode cX2_reverse 53 = .ok (.getfield 15, 3) := by decide +kernel
theorem dX2_reverse_56 : decode cX2_reverse 56 = .ok (.iload_n 2, 1) := by decide +kernel
theorem dX2_reverse_57 : decode cX2_reverse 57 = .ok (.aload_n 0, 1) := by decide +kernel
theorem dX2_reverse_58 : decode cX2_reverse 58 = .ok (.getfield 15, 3) := by decide +kernel
theorem dX2_reverse_61 : decode cX2_reverse 61 = .ok (.iload_n 3, 1) := by decide +kernel
theorem dX2_reverse_62 : decode cX2_reverse 62 = .ok (.caload, 1) := by decide +kernel
theorem dX2_reverse_63 : decode cX2_reverse 63 = .ok (.castore, 1) := by decide +kernel
theorem dX2_reverse_64 : decode cX2_reverse 64 = .ok (.aload_n 0, 1) := by decide +kernel
theorem dX2_reverse_65 : decode cX2_reverse 65 = .ok (.getfield 15, 3) := by decide +kernel
theorem dX2_reverse_68 : decode cX2_reverse 68 = .ok (.iload_n 3, 1) := by decide +kernel
theorem dX2_reverse_69 : decode cX2_reverse 69 = .ok (.iload 4, 2) := by decide +kernel
theorem dX2_reverse_71 : decode cX2_reverse 71 = .ok (.castore, 1) := by decide +kernel
theorem dX2_reverse_72 : decode cX2_reverse 72 = .ok (.iinc 2 1, 3) := by decide +kernel
theorem dX2_reverse_75 : decode cX2_reverse 75 = .ok (.goto (-71), 3) := by decide +kernel
theorem dX2_reverse_78 : decode cX2_reverse 78 = .ok (.iload_n 1, 1) := by decide +kernel
theorem dX2_reverse_79 : decode cX2_reverse 79 = .ok (.ireturn, 1) := by decide +kernel
set_option maxRecDepth 20000 in
theorem ggX2_become_X2_becomePart : GoodIn wsX2_become wsX2_becomePart := goodIn_r _ [6, 7, 8, 9, 5, 10, 1, 11, 12, 13, 14, 15, 16, 17, 18, 19, 20, 21] (by decide +kernel) (by decide +kernel)
set_option maxRecDepth 20000 in
theorem gX2_become_X2_becomePart : GoodIn wsX2_become (wsV RX2 29 RX2 yX2_becomePart wsX2_becomePart) := goodIn_app (goodIn_of _ (by decide +kernel)) ggX2_become_X2_becomePart
theorem dX2_become_0 : decode cX2_become 0 = .ok (.aload_n 0, 1) := by decide +kernel
theorem dX2_become_1 : decode cX2_become 1 = .ok (.aload_n 1, 1) := by decide +kernel
theorem dX2_become_2 : decode cX2_become 2 = .ok (.iconst 0, 1) := by decide +kernel
theorem dX2_become_3 : decode cX2_become 3 = .ok (.aload_n 1, 1) := by decide +kernel
theorem dX2_become_4 : decode cX2_become 4 = .ok (.getfield 21, 3) := by decide +kernel
theorem dX2_become_7 : decode cX2_become 7 = .ok (.invokevirtual 29, 3) := by decide +kernel
theorem dX2_become_10 : decode cX2_become 10 = .ok (.return_, 1) := by decide +kernel
set_option maxRecDepth 20000 in
theorem ggX2_becomePart_X2_clear : GoodIn wsX2_becomePart wsX2_clear := goodIn_r _ [5, 6, 16, 17] (by decide +kernel) (by decide +kernel)
set_option maxRecDepth 20000 in
theorem gX2_becomePart_X2_clear : GoodIn wsX2_becomePart (wsV RX2 33 RX2 yX2_clear wsX2_clear) := goodIn_app (goodIn_of _ (by decide +kernel)) ggX2_becomePart_X2_clear
set_option maxRecDepth 20000 in
theorem ggX2_becomePart_X2_at : GoodIn wsX2_becomePart wsX2_at := goodIn_r _ [10, 6, 11, 16, 17] (by decide +kernel) (by decide +kernel)
set_option maxRecDepth 20000 in
theorem gX2_becomePart_X2_at : GoodIn wsX2_becomePart (wsV RX2 36 RX2 yX2_at wsX2_at) := goodIn_app (goodIn_of _ (by decide +kernel)) ggX2_becomePart_X2_at
set_option maxRecDepth 20000 in
theorem ggX2_becomePart_X2_append : GoodIn wsX2_becomePart wsX2_append := goodIn_r _ [15, 6, 11, 16, 17] (by decide +kernel) (by decide +kernel)
set_option maxRecDepth 20000 in
theorem gX2_becomePart_X2_append : GoodIn wsX2_becomePart (wsV RX2 25 RX2 yX2_append wsX2_append) := goodIn_app (goodIn_of _ (by decide +kernel)) ggX2_becomePart_X2_append
theorem dX2_becomePart_0 : decode cX2_becomePart 0 = .ok (.aload_n 0, 1) := by decide +kernel
theorem dX2_becomePart_1 : decode cX2_becomePart 1 = .ok (.invokevirtual 33, 3) := by decide +kernel
theorem dX2_becomePart_4 : decode cX2_becomePart 4 = .ok (.iload_n 2, 1) := by decide +kernel
theorem dX2_becomePart_5 : decode cX2_becomePart 5 = .ok (.istore 4, 2) := by decide +kernel
theorem dX2_becomePart_7 : decode cX2_becomePart 7 = .ok (.iload 4, 2) := by decide +kernel
theorem dX2_becomePart_9 : decode cX2_becomePart 9 = .ok (.iload_n 3, 1) := by decide +kernel
theorem dX2_becomePart_10 : decode cX2_becomePart 10 = .ok (.if_icmp .ge 19, 3) := by decide +kernel
theorem dX2_becomePart_13 : decode cX2_becomePart 13 = .ok (.aload_n 0, 1) := by decide +kernel
theorem dX2_becomePart_14 : decode cX2_becomePart 14 = .ok (.aload_n 1, 1) := by decide +kernel
theorem dX2_becomePart_15 : decode cX2_becomePart 15 = .ok (.iload 4, 2) := by decide +kernel
theorem dX2_becomePart_17 : decode cX2_becomePart 17 = .ok (.invokevirtual 36, 3) := by decide +kernel
theorem dX2_becomePart_20 : decode cX2_becomePart 20 = .ok (.invokevirtual 25, 3) := by decide +kernel
theorem dX2_becomePart_23 : decode cX2_becomePart 23 = .ok (.iinc 4 1, 3) := by decide +kernel
theorem dX2_becomePart_26 : decode cX2_becomePart 26 = .ok (.goto (-19), 3) := by decide +kernel
theorem dX2_becomePart_29 : decode cX2_becomePart 29 = .ok (.return_, 1) := by decide +kernel
theorem dX2_common_0 : decode cX2_common 0 = .ok (.iconst 0, 1) := by decide +kernel
theorem dX2_common_1 : decode cX2_common 1 = .ok (.istore_n 2, 1) := by decide +kernel
theorem dX2_common_2 : decode cX2_common 2 = .ok (.iload_n 2, 1) := by decide +kernel
theorem dX2_common_3 : decode cX2_common 3 = .ok (.aload_n 0, 1) := by decide +kernel
theorem dX2_common_4 : decode cX2_common 4 = .ok (.getfield 21, 3) := by decide +kernel
theorem dX2_common_7 : decode cX2_common 7 = .ok (.if_icmp .ge 32, 3) := by decide +kernel
theorem dX2_common_10 : decode cX2_common 10 = .ok (.iload_n 2, 1) := by decide +kernel
theorem dX2_common_11 : decode cX2_common 11 = .ok (.aload_n 1, 1) := by decide +kernel
theorem dX2_common_12 : decode cX2_common 12 = .ok (.getfield 21, 3) := by decide +kernel
theorem dX2_common_15 : decode cX2_common 15 = .ok (.if_icmp .ge 24, 3) := by decide +kernel
theorem dX2_common_18 : decode cX2_common 18 = .ok (.aload_n 0, 1) := by decide +kernel
theorem dX2_common_19 : decode cX2_common 19 = .ok (.getfield 15, 3) := by decide +kernel
theorem dX2_common_22 : decode cX2_common 22 = .ok (.iload_n 2, 1) := by decide +kernel
theorem dX2_common_23 : decode cX2_common 23 = .ok (.caload, 1) := by decide +kernel
theorem dX2_common_24 : decode cX2_common 24 = .ok (.aload_n 1, 1) := by decide +kernel
theorem dX2_common_25 : decode cX2_common 25 = .ok (.getfield 15, 3) := by decide +kernel
theorem dX2_common_28 : decode cX2_common 28 = .ok (.iload_n 2, 1) := by decide +kernel
theorem dX2_common_29 : decode cX2_common 29 = .ok (.caload, 1) := by decide +kernel
theorem dX2_common_30 : decode cX2_common 30 = .ok (.if_icmp .ne 9, 3) := by decide +kernel
theorem dX2_common_33 : decode cX2_common 33 = .ok (.iinc 2 1, 3) := by decide +kernel
theorem dX2_common_36 : decode cX2_common 36 = .ok (.goto (-34), 3) := by decide +kernel
theorem dX2_common_39 : decode cX2_common 39 = .ok (.iload_n 2, 1) := by decide +kernel
theorem dX2_common_40 : decode cX2_common 40 = .ok (.ireturn, 1) := by decide +kernel
set_option maxRecDepth 20000 in
theorem ggX2_compareWith_X2_common : GoodIn wsX2_compareWith wsX2_common := goodIn_r _ [7, 1, 2, 8, 9] (by decide +kernel) (by decide +kernel)
set_option maxRecDepth 20000 in
theorem gX2_compareWith_X2_common : GoodIn wsX2_compareWith (wsV RX2 40 RX2 yX2_common wsX2_common) := goodIn_app (goodIn_of _ (by decide +kernel)) ggX2_compareWith_X2_common
theorem dX2_compareWith_0 : decode cX2_compareWith 0 = .ok (.aload_n 0, 1) := by decide +kernel
theorem dX2_compareWith_1 : decode cX2_compareWith 1 = .ok (.aload_n 1, 1) := by decide +kernel
theorem dX2_compareWith_2 : decode cX2_compareWith 2 = .ok (.invokevirtual 40, 3) := by decide +kernel
theorem dX2_compareWith_5 : decode cX2_compareWith 5 = .ok (.istore_n 2, 1) := by decide +kernel
theorem dX2_compareWith_6 : decode cX2_compareWith 6 = .ok (.iload_n 2, 1) := by decide +kernel
theorem dX2_compareWith_7 : decode cX2_compareWith 7 = .ok (.aload_n 0, 1) := by decide +kernel
theorem dX2_compareWith_8 : decode cX2_compareWith 8 = .ok (.getfield 21, 3) := by decide +kernel
theorem dX2_compareWith_11 : decode cX2_compareWith 11 = .ok (.if_icmp .ge 25, 3) := by decide +kernel
theorem dX2_compareWith_14 : decode cX2_compareWith 14 = .ok (.iload_n 2, 1) := by decide +kernel
theorem dX2_compareWith_15 : decode cX2_compareWith 15 = .ok (.aload_n 1, 1) := by decide +kernel
theorem dX2_compareWith_16 : decode cX2_compareWith 16 = .ok (.getfield 21, 3) := by decide +kernel
theorem dX2_compareWith_19 : decode cX2_compareWith 19 = .ok (.if_icmp .ge 17, 3) := by decide +kernel
theorem dX2_compareWith_22 : decode cX2_compareWith 22 = .ok (.aload_n 0, 1) := by decide +kernel
theorem dX2_compareWith_23 : decode cX2_compareWith 23 = .ok (.getfield 15, 3) := by decide +kernel
theorem dX2_compareWith_26 : decode cX2_compareWith 26 = .ok (.iload_n 2, 1) := by decide +kernel
theorem dX2_compareWith_27 : decode cX2_compareWith 27 = .ok (.caload, 1) := by decide +kernel
theorem dX2_compareWith_28 : decode cX2_compareWith 28 = .ok (.aload_n 1, 1) := by decide +kernel
theorem dX2_compareWith_29 : decode cX2_compareWith 29 = .ok (.getfield 15, 3) := by decide +kernel
theorem dX2_compareWith_32 : decode cX2_compareWith 32 = .ok (.iload_n 2, 1) := by decide +kernel
theorem dX2_compareWith_33 : decode cX2_compareWith 33 = .ok (.caload, 1) := by decide +kernel
theorem dX2_compareWith_34 : decode cX2_compareWith 34 = .ok (.isub, 1) := by decide +kernel
theorem dX2_compareWith_35 : decode cX2_compareWith 35 = .ok (.ireturn, 1) := by decide +kernel
theorem dX2_compareWith_36 : decode cX2_compareWith 36 = .ok (.aload_n 0, 1) := by decide +kernel
theorem dX2_compareWith_37 : decode cX2_compareWith 37 = .ok (.getfield 21, 3) := by decide +kernel
theorem dX2_compareWith_40 : decode cX2_compareWith 40 = .ok (.aload_n 1, 1) := by decide +kernel
theorem dX2_compareWith_41 : decode cX2_compareWith 41 = .ok (.getfield 21, 3) := by decide +kernel
theorem dX2_compareWith_44 : decode cX2_compareWith 44 = .ok (.isub, 1) := by decide +kernel
theorem dX2_compareWith_45 : decode cX2_compareWith 45 = .ok (.ireturn, 1) := by decide +kernel
set_option maxRecDepth 20000 in
theorem ggX2_beginsWith_X2_hasAt : GoodIn wsX2_beginsWith wsX2_hasAt := goodIn_r _ [5, 6, 7, 8, 9] (by decide +kernel) (by decide +kernel)
set_option maxRecDepth 20000 in
theorem gX2_beginsWith_X2_hasAt : GoodIn wsX2_beginsWith (wsV RX2 44 RX2 yX2_hasAt wsX2_hasAt) := goodIn_app (goodIn_of _ (by decide +kernel)) ggX2_beginsWith_X2_hasAt
theorem dX2_beginsWith_0 : decode cX2_beginsWith 0 = .ok (.aload_n 0, 1) := by decide +kernel
theorem dX2_beginsWith_1 : decode cX2_beginsWith 1 = .ok (.iconst 0, 1) := by decide +kernel
theorem dX2_beginsWith_2 : decode cX2_beginsWith 2 = .ok (.aload_n 1, 1) := by decide +kernel
theorem dX2_beginsWith_3 : decode cX2_beginsWith 3 = .ok (.invokevirtual 44, 3) := by decide +kernel
theorem dX2_beginsWith_6 : decode cX2_beginsWith 6 = .ok (.ireturn, 1) := by decide +kernel
theorem dX2_hasAt_0 : decode cX2_hasAt 0 = .ok (.iload_n 1, 1) := by decide +kernel
theorem dX2_hasAt_1 : decode cX2_hasAt 1 = .ok (.ifCond .lt 24, 3) := by decide +kernel
theorem dX2_hasAt_4 : decode cX2_hasAt 4 = .ok (.iload_n 1, 1) := by decide +kernel
theorem dX2_hasAt_5 : decode cX2_hasAt 5 = .ok (.aload_n 0, 1) := by decide +kernel
theorem dX2_hasAt_6 : decode cX2_hasAt 6 = .ok (.getfield 21, 3) := by decide +kernel
theorem dX2_hasAt_9 : decode cX2_hasAt 9 = .ok (.if_icmp .gt 16, 3) := by decide +kernel
theorem dX2_hasAt_12 : decode cX2_hasAt 12 = .ok (.aload_n 2, 1) := by decide +kernel
theorem dX2_hasAt_13 : decode cX2_hasAt 13 = .ok (.getfield 21, 3) := by decide +kernel
theorem dX2_hasAt_16 : decode cX2_hasAt 16 = .ok (.aload_n 0, 1) := by decide +kernel
theorem dX2_hasAt_17 : decode cX2_hasAt 17 = .ok (.getfield 21, 3) := by decide +kernel
theorem dX2_hasAt_20 : decode cX2_hasAt 20 = .ok (.iload_n 1, 1) := by decide +kernel
theorem dX2_hasAt_21 : decode cX2_hasAt 21 = .ok (.isub, 1) := by decide +kernel
theorem dX2_hasAt_22 : decode cX2_hasAt 22 = .ok (.if_icmp .le 5, 3) := by decide +kernel
theorem dX2_hasAt_25 : decode cX2_hasAt 25 = .ok (.iconst 0, 1) := by decide +kernel
theorem dX2_hasAt_26 : decode cX2_hasAt 26 = .ok (.ireturn, 1) := by decide +kernel
theorem dX2_hasAt_27 : decode cX2_hasAt 27 = .ok (.iconst 0, 1) := by decide +kernel
theorem dX2_hasAt_28 : decode cX2_hasAt 28 = .ok (.istore_n 3, 1) := by decide +kernel
theorem dX2_hasAt_29 : decode cX2_hasAt 29 = .ok (.iload_n 3, 1) := by decide +kernel
theorem dX2_hasAt_30 : decode cX2_hasAt 30 = .ok (.aload_n 2, 1) := by decide +kernel
theorem dX2_hasAt_31 : decode cX2_hasAt 31 = .ok (.getfield 21, 3) := by decide +kernel
theorem dX2_hasAt_34 : decode cX2_hasAt 34 = .ok (.if_icmp .ge 28, 3) := by decide +kernel
theorem dX2_hasAt_37 : decode cX2_hasAt 37 = .ok (.aload_n 0, 1) := by decide +kernel
theorem dX2_hasAt_38 : decode cX2_hasAt 38 = .ok (.getfield 15, 3) := by decide +kernel
theorem dX2_hasAt_41 : decode cX2_hasAt 41 = .ok (.iload_n 1, 1) := by decide +kernel
theorem dX2_hasAt_42 : decode cX2_hasAt 42 = .ok (.iload_n 3, 1) := by decide +kernel
theorem dX2_hasAt_43 : decode cX2_hasAt 43 = .ok (.iadd, 1) := by decide +kernel
theorem dX2_hasAt_44 : decode cX2_hasAt 44 = .ok (.caload, 1) := by decide +kernel
theorem dX2_hasAt_45 : decode cX2_hasAt 45 = .ok (.aload_n 2, 1) := by decide +kernel
theorem dX2_hasAt_46 : decode cX2_hasAt 46 = .ok (.getfield 15, 3) := by decide +kernel
theorem dX2_hasAt_49 : decode cX2_hasAt 49 = .ok (.iload_n 3, 1) := by decide +kernel
theorem dX2_hasAt_50 : decode cX2_hasAt 50 = .ok (.caload, 1) := by decide +kernel
theorem dX2_hasAt_51 : decode cX2_hasAt 51 = .ok (.if_icmp .eq 5, 3) := by decide +kernel
theorem dX2_hasAt_54 : decode cX2_hasAt 54 = .ok (.iconst 0, 1) := by decide +kernel
theorem dX2_hasAt_55 : decode cX2_hasAt 55 = .ok (.ireturn, 1) := by decide +kernel
theorem dX2_hasAt_56 : decode cX2_hasAt 56 = .ok (.iinc 3 1, 3) := by decide +kernel
theorem dX2_hasAt_59 : decode cX2_hasAt 59 = .ok (.goto (-30), 3) := by decide +kernel
theorem dX2_hasAt_62 : decode cX2_hasAt 62 = .ok (.iconst 1, 1) := by decide +kernel
theorem dX2_hasAt_63 : decode cX2_hasAt 63 = .ok (.ireturn, 1) := by decide +kernel
theorem dX2_addTo_0 : decode cX2_addTo 0 = .ok (.lload_n 1, 1) := by decide +kernel
theorem dX2_addTo_1 : decode cX2_addTo 1 = .ok (.lstore_n 3, 1) := by decide +kernel
theorem dX2_addTo_2 : decode cX2_addTo 2 = .ok (.iconst 0, 1) := by decide +kernel
theorem dX2_addTo_3 : decode cX2_addTo 3 = .ok (.istore 5, 2) := by decide +kernel
theorem dX2_addTo_5 : decode cX2_addTo 5 = .ok (.iload 5, 2) := by decide +kernel
theorem dX2_addTo_7 : decode cX2_addTo 7 = .ok (.aload_n 0, 1) := by decide +kernel
theorem dX2_addTo_8 : decode cX2_addTo 8 = .ok (.getfield 21, 3) := by decide +kernel
theorem dX2_addTo_11 : decode cX2_addTo 11 = .ok (.if_icmp .ge 24, 3) := by decide +kernel
theorem dX2_addTo_14 : decode cX2_addTo 14 = .ok (.ldc2_w 48, 3) := by decide +kernel
theorem dX2_addTo_17 : decode cX2_addTo 17 = .ok (.lload_n 3, 1) := by decide +kernel
theorem dX2_addTo_18 : decode cX2_addTo 18 = .ok (.lmul, 1) := by decide +kernel
theorem dX2_addTo_19 : decode cX2_addTo 19 = .ok (.aload_n 0, 1) := by decide +kernel
theorem dX2_addTo_20 : decode cX2_addTo 20 = .ok (.getfield 15, 3) := by decide +kernel
theorem dX2_addTo_23 : decode cX2_addTo 23 = .ok (.iload 5, 2) := by decide +kernel
theorem dX2_addTo_25 : decode cX2_addTo 25 = .ok (.caload, 1) := by decide +kernel
theorem dX2_addTo_26 : decode cX2_addTo 26 = .ok (.i2l, 1) := by decide +kernel
theorem dX2_addTo_27 : decode cX2_addTo 27 = .ok (.ladd, 1) := by decide +kernel
theorem dX2_addTo_28 : decode cX2_addTo 28 = .ok (.lstore_n 3, 1) := by decide +kernel
theorem dX2_addTo_29 : decode cX2_addTo 29 = .ok (.iinc 5 1, 3) := by decide +kernel
theorem dX2_addTo_32 : decode cX2_addTo 32 = .ok (.goto (-27), 3) := by decide +kernel
theorem dX2_addTo_35 : decode cX2_addTo 35 = .ok (.lload_n 3, 1) := by decide +kernel
theorem dX2_addTo_36 : decode cX2_addTo 36 = .ok (.lreturn, 1) := by decide +kernel
set_option maxRecDepth 20000 in
theorem ggX3_init_X2_init : GoodIn wsX3_init wsX2_init := goodIn_r _ [11, 12, 2, 3, 13, 14, 15, 16, 17, 18, 19, 20, 21] (by decide +kernel) (by decide +kernel)
set_option maxRecDepth 20000 in
theorem gX3_init_X2_init : GoodIn wsX3_init (wsX2_init) := ggX3_init_X2_init
theorem dX3_init_0 : decode cX3_init 0 = .ok (.aload_n 0, 1) := by decide +kernel
theorem dX3_init_1 : decode cX3_init 1 = .ok (.invokespecial 3, 3) := by decide +kernel
theorem dX3_init_4 : decode cX3_init 4 = .ok (.aload_n 0, 1) := by decide +kernel
theorem dX3_init_5 : decode cX3_init 5 = .ok (.new 9, 3) := by decide +kernel
theorem dX3_init_8 : decode cX3_init 8 = .ok (.dup, 1) := by decide +kernel
theorem dX3_init_9 : decode cX3_init 9 = .ok (.bipush 24, 2) := by decide +kernel
theorem dX3_init_11 : decode cX3_init 11 = .ok (.invokespecial 11, 3) := by decide +kernel
theorem dX3_init_14 : decode cX3_init 14 = .ok (.putfield 14, 3) := by decide +kernel
theorem dX3_init_17 : decode cX3_init 17 = .ok (.aload_n 0, 1) := by decide +kernel
theorem dX3_init_18 : decode cX3_init 18 = .ok (.new 9, 3) := by decide +kernel
theorem dX3_init_21 : decode cX3_init 21 = .ok (.dup, 1) := by decide +kernel
theorem dX3_init_22 : decode cX3_init 22 = .ok (.bipush 24, 2) := by decide +kernel
theorem dX3_init_24 : decode cX3_init 24 = .ok (.invokespecial 11, 3) := by decide +kernel
theorem dX3_init_27 : decode cX3_init 27 = .ok (.putfield 20, 3) := by decide +kernel
theorem dX3_init_30 : decode cX3_init 30 = .ok (.return_, 1) := by decide +kernel
set_option maxRecDepth 20000 in
theorem ggX3_beginningsHold_X2_size : GoodIn wsX3_beginningsHold wsX2_size := goodIn_r _ [10, 11, 74, 75] (by decide +kernel) (by decide +kernel)
set_option maxRecDepth 20000 in
theorem gX3_beginningsHold_X2_size : GoodIn wsX3_beginningsHold (wsV RX3 23 RX2 yX2_size wsX2_size) := goodIn_app (goodIn_of _ (by decide +kernel)) ggX3_beginningsHold_X2_size
set_option maxRecDepth 20000 in
theorem ggX3_beginningsHold_X2_becomePart : GoodIn wsX3_beginningsHold wsX2_becomePart := goodIn_r _ [15, 16, 17, 18, 9, 19, 11, 20, 21, 22, 23, 24, 25, 26, 27, 28, 74, 75] (by decide +kernel) (by decide +kernel)
set_option maxRecDepth 20000 in
theorem gX3_beginningsHold_X2_becomePart : GoodIn wsX3_beginningsHold (wsV RX3 33 RX2 yX2_becomePart wsX2_becomePart) := goodIn_app (goodIn_of _ (by decide +kernel)) ggX3_beginningsHold_X2_becomePart
set_option maxRecDepth 20000 in
theorem ggX3_beginningsHold_X3_standTogether : GoodIn wsX3_beginningsHold wsX3_standTogether := goodIn_r _ [33, 5, 34, 35, 36, 37, 38, 39, 40, 41, 42, 43, 44, 45, 46, 47, 48, 9, 49, 11, 24, 50, 51, 52, 53, 54, 55, 56, 57, 58, 59, 60, 61, 62, 63, 64, 65, 66, 67, 68, 69, 70, 71, 72, 73, 76, 77, 78, 79, 74, 75] (by decide +kernel) (by decide +kernel)
set_option maxRecDepth 20000 in
theorem gX3_beginningsHold_X3_standTogether : GoodIn wsX3_beginningsHold (wsV RX3 37 RX3 yX3_standTogether wsX3_standTogether) := goodIn_app (goodIn_of _ (by decide +kernel)) ggX3_beginningsHold_X3_standTogether
theorem dX3_beginningsHold_0 : decode cX3_beginningsHold 0 = .ok (.aload_n 1, 1) := by decide +kernel
theorem dX3_beginningsHold_1 : decode cX3_beginningsHold 1 = .ok (.invokevirtual 23, 3) := by decide +kernel
theorem dX3_beginningsHold_4 : decode cX3_beginningsHold 4 = .ok (.bipush 10, 2) := by decide +kernel
theorem dX3_beginningsHold_6 : decode cX3_beginningsHold 6 = .ok (.invokestatic 27, 3) := by decide +kernel
theorem dX3_beginningsHold_9 : decode cX3_beginningsHold 9 = .ok (.istore_n 3, 1) := by decide +kernel
theorem dX3_beginningsHold_10 : decode cX3_beginningsHold 10 = .ok (.iconst 0, 1) := by decide +kernel
theorem dX3_beginningsHold_11 : decode cX3_beginningsHold 11 = .ok (.istore 4, 2) := by decide +kernel
theorem dX3_beginningsHold_13 : decode cX3_beginningsHold 13 = .ok (.iload 4, 2) := by decide +kernel
theorem dX3_beginningsHold_15 : decode cX3_beginningsHold 15 = .ok (.iload_n 3, 1) := by decide +kernel
theorem dX3_beginningsHold_16 : decode cX3_beginningsHold 16 = .ok (.if_icmp .gt 30, 3) := by decide +kernel
theorem dX3_beginningsHold_19 : decode cX3_beginningsHold 19 = .ok (.aload_n 0, 1) := by decide +kernel
theorem dX3_beginningsHold_20 : decode cX3_beginningsHold 20 = .ok (.getfield 14, 3) := by decide +kernel
theorem dX3_beginningsHold_23 : decode cX3_beginningsHold 23 = .ok (.aload_n 1, 1) := by decide +kernel
theorem dX3_beginningsHold_24 : decode cX3_beginningsHold 24 = .ok (.iconst 0, 1) := by decide +kernel
theorem dX3_beginningsHold_25 : decode cX3_beginningsHold 25 = .ok (.iload 4, 2) := by decide +kernel
theorem dX3_beginningsHold_27 : decode cX3_beginningsHold 27 = .ok (.invokevirtual 33, 3) := by decide +kernel
theorem dX3_beginningsHold_30 : decode cX3_beginningsHold 30 = .ok (.aload_n 0, 1) := by decide +kernel
theorem dX3_beginningsHold_31 : decode cX3_beginningsHold 31 = .ok (.aload_n 2, 1) := by decide +kernel
theorem dX3_beginningsHold_32 : decode cX3_beginningsHold 32 = .ok (.invokevirtual 37, 3) := by decide +kernel
theorem dX3_beginningsHold_35 : decode cX3_beginningsHold 35 = .ok (.ifCond .ne 5, 3) := by decide +kernel
theorem dX3_beginningsHold_38 : decode cX3_beginningsHold 38 = .ok (.iconst 0, 1) := by decide +kernel
theorem dX3_beginningsHold_39 : decode cX3_beginningsHold 39 = .ok (.ireturn, 1) := by decide +kernel
theorem dX3_beginningsHold_40 : decode cX3_beginningsHold 40 = .ok (.iinc 4 1, 3) := by decide +kernel
theorem dX3_beginningsHold_43 : decode cX3_beginningsHold 43 = .ok (.goto (-30), 3) := by decide +kernel
theorem dX3_beginningsHold_46 : decode cX3_beginningsHold 46 = .ok (.iconst 1, 1) := by decide +kernel
theorem dX3_beginningsHold_47 : decode cX3_beginningsHold 47 = .ok (.ireturn, 1) := by decide +kernel
set_option maxRecDepth 20000 in
theorem ggX3_standTogether_X4_countLess : GoodIn wsX3_standTogether wsX4_countLess := goodIn_r _ [6, 7, 8, 9, 10, 5, 11, 12, 13, 14, 15, 16, 17, 18, 19, 20, 21, 22, 23, 24, 45, 46, 47, 48, 49, 50] (by decide +kernel) (by decide +kernel)
set_option maxRecDepth 20000 in
theorem gX3_standTogether_X4_countLess : GoodIn wsX3_standTogether (wsV RX3 41 RX4 yX4_countLess wsX4_countLess) := goodIn_app (goodIn_of _ (by decide +kernel)) ggX3_standTogether_X4_countLess
set_option maxRecDepth 20000 in
theorem ggX3_standTogether_X4_countBegun : GoodIn wsX3_standTogether wsX4_countBegun := goodIn_r _ [28, 7, 8, 9, 10, 5, 11, 12, 13, 29, 30, 31, 17, 32, 33, 34, 35, 36, 19, 20, 45, 46, 47, 48, 49, 50] (by decide +kernel) (by decide +kernel)
set_option maxRecDepth 20000 in
theorem gX3_standTogether_X4_countBegun : GoodIn wsX3_standTogether (wsV RX3 47 RX4 yX4_countBegun wsX4_countBegun) := goodIn_app (goodIn_of _ (by decide +kernel)) ggX3_standTogether_X4_countBegun
set_option maxRecDepth 20000 in
theorem ggX3_standTogether_X4_size : GoodIn wsX3_standTogether wsX4_size := goodIn_r _ [40, 7, 45, 46, 47, 48] (by decide +kernel) (by decide +kernel)
set_option maxRecDepth 20000 in
theorem gX3_standTogether_X4_size : GoodIn wsX3_standTogether (wsV RX3 50 RX4 yX4_size wsX4_size) := goodIn_app (goodIn_of _ (by decide +kernel)) ggX3_standTogether_X4_size
set_option maxRecDepth 20000 in
theorem ggX3_standTogether_X4_rowAt : GoodIn wsX3_standTogether wsX4_rowAt := goodIn_r _ [11, 7, 12, 13, 45, 46, 47, 48] (by decide +kernel) (by decide +kernel)
set_option maxRecDepth 20000 in
theorem gX3_standTogether_X4_rowAt : GoodIn wsX3_standTogether (wsV RX3 51 RX4 yX4_rowAt wsX4_rowAt) := goodIn_app (goodIn_of _ (by decide +kernel)) ggX3_standTogether_X4_rowAt
set_option maxRecDepth 20000 in
theorem ggX3_standTogether_X2_beginsWith : GoodIn wsX3_standTogether wsX2_beginsWith := goodIn_r _ [32, 33, 34, 35, 17, 36, 19, 20, 49, 50] (by decide +kernel) (by decide +kernel)
set_option maxRecDepth 20000 in
theorem gX3_standTogether_X2_beginsWith : GoodIn wsX3_standTogether (wsV RX3 55 RX2 yX2_beginsWith wsX2_beginsWith) := goodIn_app (goodIn_of _ (by decide +kernel)) ggX3_standTogether_X2_beginsWith
theorem dX3_standTogether_0 : decode cX3_standTogether 0 = .ok (.aload_n 1, 1) := by decide +kernel
theorem dX3_standTogether_1 : decode cX3_standTogether 1 = .ok (.aload_n 0, 1) := by decide +kernel
theorem dX3_standTogether_2 : decode cX3_standTogether 2 = .ok (.getfield 14, 3) := by decide +kernel
theorem dX3_standTogether_5 : decode cX3_standTogether 5 = .ok (.invokevirtual 41, 3) := by decide +kernel
theorem dX3_standTogether_8 : decode cX3_standTogether 8 = .ok (.istore_n 2, 1) := by decide +kernel
theorem dX3_standTogether_9 : decode cX3_standTogether 9 = .ok (.iload_n 2, 1) := by decide +kernel
theorem dX3_standTogether_10 : decode cX3_standTogether 10 = .ok (.aload_n 1, 1) := by decide +kernel
theorem dX3_standTogether_11 : decode cX3_standTogether 11 = .ok (.aload_n 0, 1) := by decide +kernel
theorem dX3_standTogether_12 : decode cX3_standTogether 12 = .ok (.getfield 14, 3) := by decide +kernel
theorem dX3_standTogether_15 : decode cX3_standTogether 15 = .ok (.invokevirtual 47, 3) := by decide +kernel
theorem dX3_standTogether_18 : decode cX3_standTogether 18 = .ok (.iadd, 1) := by decide +kernel
theorem dX3_standTogether_19 : decode cX3_standTogether 19 = .ok (.istore_n 3, 1) := by decide +kernel
theorem dX3_standTogether_20 : decode cX3_standTogether 20 = .ok (.iconst 0, 1) := by decide +kernel
theorem dX3_standTogether_21 : decode cX3_standTogether 21 = .ok (.istore 4, 2) := by decide +kernel
theorem dX3_standTogether_23 : decode cX3_standTogether 23 = .ok (.iload 4, 2) := by decide +kernel
theorem dX3_standTogether_25 : decode cX3_standTogether 25 = .ok (.aload_n 1, 1) := by decide +kernel
theorem dX3_standTogether_26 : decode cX3_standTogether 26 = .ok (.invokevirtual 50, 3) := by decide +kernel
theorem dX3_standTogether_29 : decode cX3_standTogether 29 = .ok (.if_icmp .ge 48, 3) := by decide +kernel
theorem dX3_standTogether_32 : decode cX3_standTogether 32 = .ok (.iload 4, 2) := by decide +kernel
theorem dX3_standTogether_34 : decode cX3_standTogether 34 = .ok (.iload_n 2, 1) := by decide +kernel
theorem dX3_standTogether_35 : decode cX3_standTogether 35 = .ok (.if_icmp .lt 13, 3) := by decide +kernel
theorem dX3_standTogether_38 : decode cX3_standTogether 38 = .ok (.iload 4, 2) := by decide +kernel
theorem dX3_standTogether_40 : decode cX3_standTogether 40 = .ok (.iload_n 3, 1) := by decide +kernel
theorem dX3_standTogether_41 : decode cX3_standTogether 41 = .ok (.if_icmp .ge 7, 3) := by decide +kernel
theorem dX3_standTogether_44 : decode cX3_standTogether 44 = .ok (.iconst 1, 1) := by decide +kernel
theorem dX3_standTogether_45 : decode cX3_standTogether 45 = .ok (.goto 4, 3) := by decide +kernel
theorem dX3_standTogether_48 : decode cX3_standTogether 48 = .ok (.iconst 0, 1) := by decide +kernel
theorem dX3_standTogether_49 : decode cX3_standTogether 49 = .ok (.istore 5, 2) := by decide +kernel
theorem dX3_standTogether_51 : decode cX3_standTogether 51 = .ok (.iload 5, 2) := by decide +kernel
theorem dX3_standTogether_53 : decode cX3_standTogether 53 = .ok (.aload_n 1, 1) := by decide +kernel
theorem dX3_standTogether_54 : decode cX3_standTogether 54 = .ok (.iload 4, 2) := by decide +kernel
theorem dX3_standTogether_56 : decode cX3_standTogether 56 = .ok (.invokevirtual 51, 3) := by decide +kernel
theorem dX3_standTogether_59 : decode cX3_standTogether 59 = .ok (.aload_n 0, 1) := by decide +kernel
theorem dX3_standTogether_60 : decode cX3_standTogether 60 = .ok (.getfield 14, 3) := by decide +kernel
theorem dX3_standTogether_63 : decode cX3_standTogether 63 = .ok (.invokevirtual 55, 3) := by decide +kernel
theorem dX3_standTogether_66 : decode cX3_standTogether 66 = .ok (.if_icmp .eq 5, 3) := by decide +kernel
theorem dX3_standTogether_69 : decode cX3_standTogether 69 = .ok (.iconst 0, 1) := by decide +kernel
theorem dX3_standTogether_70 : decode cX3_standTogether 70 = .ok (.ireturn, 1) := by decide +kernel
theorem dX3_standTogether_71 : decode cX3_standTogether 71 = .ok (.iinc 4 1, 3) := by decide +kernel
theorem dX3_standTogether_74 : decode cX3_standTogether 74 = .ok (.goto (-51), 3) := by decide +kernel
theorem dX3_standTogether_77 : decode cX3_standTogether 77 = .ok (.iconst 1, 1) := by decide +kernel
theorem dX3_standTogether_78 : decode cX3_standTogether 78 = .ok (.ireturn, 1) := by decide +kernel
set_option maxRecDepth 20000 in
theorem ggX3_longestHolds_X2_size : GoodIn wsX3_longestHolds wsX2_size := goodIn_r _ [6, 7, 73, 74] (by decide +kernel) (by decide +kernel)
set_option maxRecDepth 20000 in
theorem gX3_longestHolds_X2_size : GoodIn wsX3_longestHolds (wsV RX3 23 RX2 yX2_size wsX2_size) := goodIn_app (goodIn_of _ (by decide +kernel)) ggX3_longestHolds_X2_size
set_option maxRecDepth 20000 in
theorem ggX3_longestHolds_X2_becomePart : GoodIn wsX3_longestHolds wsX2_becomePart := goodIn_r _ [11, 12, 13, 14, 5, 15, 7, 16, 17, 18, 19, 20, 21, 22, 23, 24, 73, 74] (by decide +kernel) (by decide +kernel)
set_option maxRecDepth 20000 in
theorem gX3_longestHolds_X2_becomePart : GoodIn wsX3_longestHolds (wsV RX3 33 RX2 yX2_becomePart wsX2_becomePart) := goodIn_app (goodIn_of _ (by decide +kernel)) ggX3_longestHolds_X2_becomePart
set_option maxRecDepth 20000 in
theorem ggX3_longestHolds_X4_longestAt : GoodIn wsX3_longestHolds wsX4_longestAt := goodIn_r _ [29, 30, 31, 32, 33, 34, 35, 36, 37, 28, 38, 39, 40, 41, 42, 43, 5, 44, 7, 20, 45, 3, 4, 6, 75, 76, 77, 78, 73, 74] (by decide +kernel) (by decide +kernel)
set_option maxRecDepth 20000 in
theorem gX3_longestHolds_X4_longestAt : GoodIn wsX3_longestHolds (wsV RX3 59 RX4 yX4_longestAt wsX4_longestAt) := goodIn_app (goodIn_of _ (by decide +kernel)) ggX3_longestHolds_X4_longestAt
set_option maxRecDepth 20000 in
theorem ggX3_longestHolds_X3_longestByOrder : GoodIn wsX3_longestHolds wsX3_longestByOrder := goodIn_r _ [50, 1, 51, 52, 53, 54, 28, 55, 30, 35, 36, 37, 38, 39, 40, 56, 57, 58, 5, 59, 7, 20, 60, 61, 62, 63, 64, 65, 66, 67, 68, 69, 42, 43, 44, 2, 3, 4, 6, 70, 8, 9, 10, 11, 12, 13, 14, 15, 16, 17, 18, 19, 21, 22, 23, 24, 25, 26, 27, 29, 31, 32, 33, 34, 41, 45, 71, 72, 75, 76, 77, 78, 73, 74] (by decide +kernel) (by decide +kernel)
set_option maxRecDepth 20000 in
theorem gX3_longestHolds_X3_longestByOrder : GoodIn wsX3_longestHolds (wsV RX3 63 RX3 yX3_longestByOrder wsX3_longestByOrder) := goodIn_app (goodIn_of _ (by decide +kernel)) ggX3_longestHolds_X3_longestByOrder
theorem dX3_longestHolds_0 : decode cX3_longestHolds 0 = .ok (.iconst 0, 1) := by decide +kernel
theorem dX3_longestHolds_1 : decode cX3_longestHolds 1 = .ok (.istore_n 3, 1) := by decide +kernel
theorem dX3_longestHolds_2 : decode cX3_longestHolds 2 = .ok (.iload_n 3, 1) := by decide +kernel
theorem dX3_longestHolds_3 : decode cX3_longestHolds 3 = .ok (.aload_n 1, 1) := by decide +kernel
theorem dX3_longestHolds_4 : decode cX3_longestHolds 4 = .ok (.invokevirtual 23, 3) := by decide +kernel
theorem dX3_longestHolds_7 : decode cX3_longestHolds 7 = .ok (.if_icmp .gt 38, 3) := by decide +kernel
theorem dX3_longestHolds_10 : decode cX3_longestHolds 10 = .ok (.aload_n 0, 1) := by decide +kernel
theorem dX3_longestHolds_11 : decode cX3_longestHolds 11 = .ok (.getfield 14, 3) := by decide +kernel
theorem dX3_longestHolds_14 : decode cX3_longestHolds 14 = .ok (.aload_n 1, 1) := by decide +kernel
theorem dX3_longestHolds_15 : decode cX3_longestHolds 15 = .ok (.iload_n 3, 1) := by decide +kernel
theorem dX3_longestHolds_16 : decode cX3_longestHolds 16 = .ok (.aload_n 1, 1) := by decide +kernel
theorem dX3_longestHolds_17 : decode cX3_longestHolds 17 = .ok (.invokevirtual 23, 3) := by decide +kernel
theorem dX3_longestHolds_20 : decode cX3_longestHolds 20 = .ok (.invokevirtual 33, 3) := by decide +kernel
theorem dX3_longestHolds_23 : decode cX3_longestHolds 23 = .ok (.aload_n 2, 1) := by decide +kernel
theorem dX3_longestHolds_24 : decode cX3_longestHolds 24 = .ok (.aload_n 1, 1) := by decide +kernel
theorem dX3_longestHolds_25 : decode cX3_longestHolds 25 = .ok (.iload_n 3, 1) := by decide +kernel
theorem dX3_longestHolds_26 : decode cX3_longestHolds 26 = .ok (.invokevirtual 59, 3) := by decide +kernel
theorem dX3_longestHolds_29 : decode cX3_longestHolds 29 = .ok (.aload_n 0, 1) := by decide +kernel
theorem dX3_longestHolds_30 : decode cX3_longestHolds 30 = .ok (.aload_n 2, 1) := by decide +kernel
theorem dX3_longestHolds_31 : decode cX3_longestHolds 31 = .ok (.invokevirtual 63, 3) := by decide +kernel
theorem dX3_longestHolds_34 : decode cX3_longestHolds 34 = .ok (.if_icmp .eq 5, 3) := by decide +kernel
theorem dX3_longestHolds_37 : decode cX3_longestHolds 37 = .ok (.iconst 0, 1) := by decide +kernel
theorem dX3_longestHolds_38 : decode cX3_longestHolds 38 = .ok (.ireturn, 1) := by decide +kernel
theorem dX3_longestHolds_39 : decode cX3_longestHolds 39 = .ok (.iinc 3 1, 3) := by decide +kernel
theorem dX3_longestHolds_42 : decode cX3_longestHolds 42 = .ok (.goto (-40), 3) := by decide +kernel
theorem dX3_longestHolds_45 : decode cX3_longestHolds 45 = .ok (.iconst 1, 1) := by decide +kernel
theorem dX3_longestHolds_46 : decode cX3_longestHolds 46 = .ok (.ireturn, 1) := by decide +kernel
set_option maxRecDepth 20000 in
theorem ggX3_longestByOrder_X4_countNotGreater : GoodIn wsX3_longestByOrder wsX4_countNotGreater := goodIn_r _ [7, 8, 9, 10, 11, 6, 12, 13, 14, 15, 16, 17, 18, 19, 20, 21, 22, 23, 24, 25, 68, 69, 70, 71, 72, 73] (by decide +kernel) (by decide +kernel)
set_option maxRecDepth 20000 in
theorem gX3_longestByOrder_X4_countNotGreater : GoodIn wsX3_longestByOrder (wsV RX3 67 RX4 yX4_countNotGreater wsX4_countNotGreater) := goodIn_app (goodIn_of _ (by decide +kernel)) ggX3_longestByOrder_X4_countNotGreater
set_option maxRecDepth 20000 in
theorem ggX3_longestByOrder_X4_rowAt : GoodIn wsX3_longestByOrder wsX4_rowAt := goodIn_r _ [12, 8, 13, 14, 68, 69, 70, 71] (by decide +kernel) (by decide +kernel)
set_option maxRecDepth 20000 in
theorem gX3_longestByOrder_X4_rowAt : GoodIn wsX3_longestByOrder (wsV RX3 51 RX4 yX4_rowAt wsX4_rowAt) := goodIn_app (goodIn_of _ (by decide +kernel)) ggX3_longestByOrder_X4_rowAt
set_option maxRecDepth 20000 in
theorem ggX3_longestByOrder_X2_beginsWith : GoodIn wsX3_longestByOrder wsX2_beginsWith := goodIn_r _ [30, 31, 32, 33, 18, 34, 20, 21, 72, 73] (by decide +kernel) (by decide +kernel)
set_option maxRecDepth 20000 in
theorem gX3_longestByOrder_X2_beginsWith : GoodIn wsX3_longestByOrder (wsV RX3 55 RX2 yX2_beginsWith wsX2_beginsWith) := goodIn_app (goodIn_of _ (by decide +kernel)) ggX3_longestByOrder_X2_beginsWith
set_option maxRecDepth 20000 in
theorem ggX3_longestByOrder_X2_size : GoodIn wsX3_longestByOrder wsX2_size := goodIn_r _ [38, 20, 72, 73] (by decide +kernel) (by decide +kernel)
set_option maxRecDepth 20000 in
theorem gX3_longestByOrder_X2_size : GoodIn wsX3_longestByOrder (wsV RX3 23 RX2 yX2_size wsX2_size) := goodIn_app (goodIn_of _ (by decide +kernel)) ggX3_longestByOrder_X2_size
set_option maxRecDepth 20000 in
theorem ggX3_longestByOrder_X2_common : GoodIn wsX3_longestByOrder wsX2_common := goodIn_r _ [25, 20, 21, 72, 73] (by decide +kernel) (by decide +kernel)
set_option maxRecDepth 20000 in
theorem gX3_longestByOrder_X2_common : GoodIn wsX3_longestByOrder (wsV RX3 70 RX2 yX2_common wsX2_common) := goodIn_app (goodIn_of _ (by decide +kernel)) ggX3_longestByOrder_X2_common
set_option maxRecDepth 20000 in
theorem ggX3_longestByOrder_X2_becomePart : GoodIn wsX3_longestByOrder wsX2_becomePart := goodIn_r _ [43, 44, 45, 46, 18, 47, 20, 48, 49, 50, 51, 21, 52, 53, 54, 55, 72, 73] (by decide +kernel) (by decide +kernel)
set_option maxRecDepth 20000 in
theorem gX3_longestByOrder_X2_becomePart : GoodIn wsX3_longestByOrder (wsV RX3 33 RX2 yX2_becomePart wsX2_becomePart) := goodIn_app (goodIn_of _ (by decide +kernel)) ggX3_longestByOrder_X2_becomePart
set_option maxRecDepth 20000 in
theorem ggX3_longestByOrder_X4_longestAt : GoodIn wsX3_longestByOrder wsX4_longestAt := goodIn_r _ [59, 8, 60, 61, 62, 63, 9, 10, 11, 6, 12, 13, 14, 64, 32, 33, 18, 34, 20, 21, 65, 36, 37, 38, 68, 69, 70, 71, 72, 73] (by decide +kernel) (by decide +kernel)
set_option maxRecDepth 20000 in
theorem gX3_longestByOrder_X4_longestAt : GoodIn wsX3_longestByOrder (wsV RX3 59 RX4 yX4_longestAt wsX4_longestAt) := goodIn_app (goodIn_of _ (by decide +kernel)) ggX3_longestByOrder_X4_longestAt
theorem dX3_longestByOrder_0 : decode cX3_longestByOrder 0 = .ok (.aload_n 1, 1) := by decide +kernel
theorem dX3_longestByOrder_1 : decode cX3_longestByOrder 1 = .ok (.aload_n 0, 1) := by decide +kernel
theorem dX3_longestByOrder_2 : decode cX3_longestByOrder 2 = .ok (.getfield 14, 3) := by decide +kernel
theorem dX3_longestByOrder_5 : decode cX3_longestByOrder 5 = .ok (.invokevirtual 67, 3) := by decide +kernel
theorem dX3_longestByOrder_8 : decode cX3_longestByOrder 8 = .ok (.iconst 1, 1) := by decide +kernel
theorem dX3_longestByOrder_9 : decode cX3_longestByOrder 9 = .ok (.isub, 1) := by decide +kernel
theorem dX3_longestByOrder_10 : decode cX3_longestByOrder 10 = .ok (.istore_n 2, 1) := by decide +kernel
theorem dX3_longestByOrder_11 : decode cX3_longestByOrder 11 = .ok (.iload_n 2, 1) := by decide +kernel
theorem dX3_longestByOrder_12 : decode cX3_longestByOrder 12 = .ok (.ifCond .ge 5, 3) := by decide +kernel
theorem dX3_longestByOrder_15 : decode cX3_longestByOrder 15 = .ok (.iconst 0, 1) := by decide +kernel
theorem dX3_longestByOrder_16 : decode cX3_longestByOrder 16 = .ok (.ireturn, 1) := by decide +kernel
theorem dX3_longestByOrder_17 : decode cX3_longestByOrder 17 = .ok (.aload_n 1, 1) := by decide +kernel
theorem dX3_longestByOrder_18 : decode cX3_longestByOrder 18 = .ok (.iload_n 2, 1) := by decide +kernel
theorem dX3_longestByOrder_19 : decode cX3_longestByOrder 19 = .ok (.invokevirtual 51, 3) := by decide +kernel
theorem dX3_longestByOrder_22 : decode cX3_longestByOrder 22 = .ok (.astore_n 3, 1) := by decide +kernel
theorem dX3_longestByOrder_23 : decode cX3_longestByOrder 23 = .ok (.aload_n 0, 1) := by decide +kernel
theorem dX3_longestByOrder_24 : decode cX3_longestByOrder 24 = .ok (.getfield 14, 3) := by decide +kernel
theorem dX3_longestByOrder_27 : decode cX3_longestByOrder 27 = .ok (.aload_n 3, 1) := by decide +kernel
theorem dX3_longestByOrder_28 : decode cX3_longestByOrder 28 = .ok (.invokevirtual 55, 3) := by decide +kernel
theorem dX3_longestByOrder_31 : decode cX3_longestByOrder 31 = .ok (.ifCond .eq 8, 3) := by decide +kernel
theorem dX3_longestByOrder_34 : decode cX3_longestByOrder 34 = .ok (.aload_n 3, 1) := by decide +kernel
theorem dX3_longestByOrder_35 : decode cX3_longestByOrder 35 = .ok (.invokevirtual 23, 3) := by decide +kernel
theorem dX3_longestByOrder_38 : decode cX3_longestByOrder 38 = .ok (.ireturn, 1) := by decide +kernel
theorem dX3_longestByOrder_39 : decode cX3_longestByOrder 39 = .ok (.aload_n 0, 1) := by decide +kernel
theorem dX3_longestByOrder_40 : decode cX3_longestByOrder 40 = .ok (.getfield 20, 3) := by decide +kernel
theorem dX3_longestByOrder_43 : decode cX3_longestByOrder 43 = .ok (.aload_n 0, 1) := by decide +kernel
theorem dX3_longestByOrder_44 : decode cX3_longestByOrder 44 = .ok (.getfield 14, 3) := by decide +kernel
theorem dX3_longestByOrder_47 : decode cX3_longestByOrder 47 = .ok (.iconst 0, 1) := by decide +kernel
theorem dX3_longestByOrder_48 : decode cX3_longestByOrder 48 = .ok (.aload_n 0, 1) := by decide +kernel
theorem dX3_longestByOrder_49 : decode cX3_longestByOrder 49 = .ok (.getfield 14, 3) := by decide +kernel
theorem dX3_longestByOrder_52 : decode cX3_longestByOrder 52 = .ok (.aload_n 3, 1) := by decide +kernel
theorem dX3_longestByOrder_53 : decode cX3_longestByOrder 53 = .ok (.invokevirtual 70, 3) := by decide +kernel
theorem dX3_longestByOrder_56 : decode cX3_longestByOrder 56 = .ok (.invokevirtual 33, 3) := by decide +kernel
theorem dX3_longestByOrder_59 : decode cX3_longestByOrder 59 = .ok (.aload_n 1, 1) := by decide +kernel
theorem dX3_longestByOrder_60 : decode cX3_longestByOrder 60 = .ok (.aload_n 0, 1) := by decide +kernel
theorem dX3_longestByOrder_61 : decode cX3_longestByOrder 61 = .ok (.getfield 20, 3) := by decide +kernel
theorem dX3_longestByOrder_64 : decode cX3_longestByOrder 64 = .ok (.iconst 0, 1) := by decide +kernel
theorem dX3_longestByOrder_65 : decode cX3_longestByOrder 65 = .ok (.invokevirtual 59, 3) := by decide +kernel
theorem dX3_longestByOrder_68 : decode cX3_longestByOrder 68 = .ok (.ireturn, 1) := by decide +kernel
set_option maxRecDepth 20000 in
theorem ggX3_commonHolds_X4_countNotGreater : GoodIn wsX3_commonHolds wsX4_countNotGreater := goodIn_r _ [9, 10, 11, 12, 13, 8, 14, 15, 16, 17, 18, 19, 20, 21, 22, 23, 24, 25, 26, 27, 40, 41, 42, 43, 44, 45] (by decide +kernel) (by decide +kernel)
set_option maxRecDepth 20000 in
theorem gX3_commonHolds_X4_countNotGreater : GoodIn wsX3_commonHolds (wsV RX3 67 RX4 yX4_countNotGreater wsX4_countNotGreater) := goodIn_app (goodIn_of _ (by decide +kernel)) ggX3_commonHolds_X4_countNotGreater
set_option maxRecDepth 20000 in
theorem ggX3_commonHolds_X4_rowAt : GoodIn wsX3_commonHolds wsX4_rowAt := goodIn_r _ [14, 10, 15, 16, 40, 41, 42, 43] (by decide +kernel) (by decide +kernel)
set_option maxRecDepth 20000 in
theorem gX3_commonHolds_X4_rowAt : GoodIn wsX3_commonHolds (wsV RX3 51 RX4 yX4_rowAt wsX4_rowAt) := goodIn_app (goodIn_of _ (by decide +kernel)) ggX3_commonHolds_X4_rowAt
set_option maxRecDepth 20000 in
theorem ggX3_commonHolds_X2_common : GoodIn wsX3_commonHolds wsX2_common := goodIn_r _ [27, 22, 23, 44, 45] (by decide +kernel) (by decide +kernel)
set_option maxRecDepth 20000 in
theorem gX3_commonHolds_X2_common : GoodIn wsX3_commonHolds (wsV RX3 70 RX2 yX2_common wsX2_common) := goodIn_app (goodIn_of _ (by decide +kernel)) ggX3_commonHolds_X2_common
set_option maxRecDepth 20000 in
theorem ggX3_commonHolds_X4_countLess : GoodIn wsX3_commonHolds wsX4_countLess := goodIn_r _ [33, 10, 11, 12, 13, 8, 14, 15, 16, 17, 18, 19, 20, 21, 22, 23, 24, 25, 26, 27, 40, 41, 42, 43, 44, 45] (by decide +kernel) (by decide +kernel)
set_option maxRecDepth 20000 in
theorem gX3_commonHolds_X4_countLess : GoodIn wsX3_commonHolds (wsV RX3 41 RX4 yX4_countLess wsX4_countLess) := goodIn_app (goodIn_of _ (by decide +kernel)) ggX3_commonHolds_X4_countLess
set_option maxRecDepth 20000 in
theorem ggX3_commonHolds_X4_mostCommon : GoodIn wsX3_commonHolds wsX4_mostCommon := goodIn_r _ [37, 10, 38, 2, 3, 4, 11, 12, 13, 8, 14, 15, 16, 39, 25, 26, 20, 27, 22, 23, 40, 41, 42, 43, 44, 45] (by decide +kernel) (by decide +kernel)
set_option maxRecDepth 20000 in
theorem gX3_commonHolds_X4_mostCommon : GoodIn wsX3_commonHolds (wsV RX3 73 RX4 yX4_mostCommon wsX4_mostCommon) := goodIn_app (goodIn_of _ (by decide +kernel)) ggX3_commonHolds_X4_mostCommon
theorem dX3_commonHolds_0 : decode cX3_commonHolds 0 = .ok (.aload_n 1, 1) := by decide +kernel
theorem dX3_commonHolds_1 : decode cX3_commonHolds 1 = .ok (.aload_n 2, 1) := by decide +kernel
theorem dX3_commonHolds_2 : decode cX3_commonHolds 2 = .ok (.aload_n 2, 1) := by decide +kernel
theorem dX3_commonHolds_3 : decode cX3_commonHolds 3 = .ok (.aload_n 1, 1) := by decide +kernel
theorem dX3_commonHolds_4 : decode cX3_commonHolds 4 = .ok (.invokevirtual 67, 3) := by decide +kernel
theorem dX3_commonHolds_7 : decode cX3_commonHolds 7 = .ok (.iconst 1, 1) := by decide +kernel
theorem dX3_commonHolds_8 : decode cX3_commonHolds 8 = .ok (.isub, 1) := by decide +kernel
theorem dX3_commonHolds_9 : decode cX3_commonHolds 9 = .ok (.invokevirtual 51, 3) := by decide +kernel
theorem dX3_commonHolds_12 : decode cX3_commonHolds 12 = .ok (.invokevirtual 70, 3) := by decide +kernel
theorem dX3_commonHolds_15 : decode cX3_commonHolds 15 = .ok (.istore_n 3, 1) := by decide +kernel
theorem dX3_commonHolds_16 : decode cX3_commonHolds 16 = .ok (.aload_n 1, 1) := by decide +kernel
theorem dX3_commonHolds_17 : decode cX3_commonHolds 17 = .ok (.aload_n 2, 1) := by decide +kernel
theorem dX3_commonHolds_18 : decode cX3_commonHolds 18 = .ok (.aload_n 2, 1) := by decide +kernel
theorem dX3_commonHolds_19 : decode cX3_commonHolds 19 = .ok (.aload_n 1, 1) := by decide +kernel
theorem dX3_commonHolds_20 : decode cX3_commonHolds 20 = .ok (.invokevirtual 41, 3) := by decide +kernel
theorem dX3_commonHolds_23 : decode cX3_commonHolds 23 = .ok (.invokevirtual 51, 3) := by decide +kernel
theorem dX3_commonHolds_26 : decode cX3_commonHolds 26 = .ok (.invokevirtual 70, 3) := by decide +kernel
theorem dX3_commonHolds_29 : decode cX3_commonHolds 29 = .ok (.istore 4, 2) := by decide +kernel
theorem dX3_commonHolds_31 : decode cX3_commonHolds 31 = .ok (.aload_n 2, 1) := by decide +kernel
theorem dX3_commonHolds_32 : decode cX3_commonHolds 32 = .ok (.aload_n 1, 1) := by decide +kernel
theorem dX3_commonHolds_33 : decode cX3_commonHolds 33 = .ok (.invokevirtual 73, 3) := by decide +kernel
theorem dX3_commonHolds_36 : decode cX3_commonHolds 36 = .ok (.iload_n 3, 1) := by decide +kernel
theorem dX3_commonHolds_37 : decode cX3_commonHolds 37 = .ok (.iload 4, 2) := by decide +kernel
theorem dX3_commonHolds_39 : decode cX3_commonHolds 39 = .ok (.invokestatic 76, 3) := by decide +kernel
theorem dX3_commonHolds_42 : decode cX3_commonHolds 42 = .ok (.if_icmp .ne 7, 3) := by decide +kernel
theorem dX3_commonHolds_45 : decode cX3_commonHolds 45 = .ok (.iconst 1, 1) := by decide +kernel
theorem dX3_commonHolds_46 : decode cX3_commonHolds 46 = .ok (.goto 4, 3) := by decide +kernel
theorem dX3_commonHolds_49 : decode cX3_commonHolds 49 = .ok (.iconst 0, 1) := by decide +kernel
theorem dX3_commonHolds_50 : decode cX3_commonHolds 50 = .ok (.ireturn, 1) := by decide +kernel
set_option maxRecDepth 20000 in
theorem ggX3_twinsHold_X4_size : GoodIn wsX3_twinsHold wsX4_size := goodIn_r _ [9, 10, 31, 32, 33, 34] (by decide +kernel) (by decide +kernel)
set_option maxRecDepth 20000 in
theorem gX3_twinsHold_X4_size : GoodIn wsX3_twinsHold (wsV RX3 50 RX4 yX4_size wsX4_size) := goodIn_app (goodIn_of _ (by decide +kernel)) ggX3_twinsHold_X4_size
set_option maxRecDepth 20000 in
theorem ggX3_twinsHold_X4_rowAt : GoodIn wsX3_twinsHold wsX4_rowAt := goodIn_r _ [14, 10, 15, 16, 31, 32, 33, 34] (by decide +kernel) (by decide +kernel)
set_option maxRecDepth 20000 in
theorem gX3_twinsHold_X4_rowAt : GoodIn wsX3_twinsHold (wsV RX3 51 RX4 yX4_rowAt wsX4_rowAt) := goodIn_app (goodIn_of _ (by decide +kernel)) ggX3_twinsHold_X4_rowAt
set_option maxRecDepth 20000 in
theorem ggX3_twinsHold_X2_common : GoodIn wsX3_twinsHold wsX2_common := goodIn_r _ [21, 22, 23, 35, 36] (by decide +kernel) (by decide +kernel)
set_option maxRecDepth 20000 in
theorem gX3_twinsHold_X2_common : GoodIn wsX3_twinsHold (wsV RX3 70 RX2 yX2_common wsX2_common) := goodIn_app (goodIn_of _ (by decide +kernel)) ggX3_twinsHold_X2_common
set_option maxRecDepth 20000 in
theorem ggX3_twinsHold_X4_mostCommonOfTwo : GoodIn wsX3_twinsHold wsX4_mostCommonOfTwo := goodIn_r _ [27, 10, 28, 2, 3, 4, 29, 12, 13, 8, 14, 15, 16, 30, 18, 19, 20, 21, 22, 23, 31, 32, 33, 34, 35, 36] (by decide +kernel) (by decide +kernel)
set_option maxRecDepth 20000 in
theorem gX3_twinsHold_X4_mostCommonOfTwo : GoodIn wsX3_twinsHold (wsV RX3 79 RX4 yX4_mostCommonOfTwo wsX4_mostCommonOfTwo) := goodIn_app (goodIn_of _ (by decide +kernel)) ggX3_twinsHold_X4_mostCommonOfTwo
theorem dX3_twinsHold_0 : decode cX3_twinsHold 0 = .ok (.iconst 0, 1) := by decide +kernel
theorem dX3_twinsHold_1 : decode cX3_twinsHold 1 = .ok (.istore_n 2, 1) := by decide +kernel
theorem dX3_twinsHold_2 : decode cX3_twinsHold 2 = .ok (.iconst 1, 1) := by decide +kernel
theorem dX3_twinsHold_3 : decode cX3_twinsHold 3 = .ok (.istore_n 3, 1) := by decide +kernel
theorem dX3_twinsHold_4 : decode cX3_twinsHold 4 = .ok (.iload_n 3, 1) := by decide +kernel
theorem dX3_twinsHold_5 : decode cX3_twinsHold 5 = .ok (.aload_n 1, 1) := by decide +kernel
theorem dX3_twinsHold_6 : decode cX3_twinsHold 6 = .ok (.invokevirtual 50, 3) := by decide +kernel
theorem dX3_twinsHold_9 : decode cX3_twinsHold 9 = .ok (.if_icmp .ge 29, 3) := by decide +kernel
theorem dX3_twinsHold_12 : decode cX3_twinsHold 12 = .ok (.iload_n 2, 1) := by decide +kernel
theorem dX3_twinsHold_13 : decode cX3_twinsHold 13 = .ok (.aload_n 1, 1) := by decide +kernel
theorem dX3_twinsHold_14 : decode cX3_twinsHold 14 = .ok (.iload_n 3, 1) := by decide +kernel
theorem dX3_twinsHold_15 : decode cX3_twinsHold 15 = .ok (.iconst 1, 1) := by decide +kernel
theorem dX3_twinsHold_16 : decode cX3_twinsHold 16 = .ok (.isub, 1) := by decide +kernel
theorem dX3_twinsHold_17 : decode cX3_twinsHold 17 = .ok (.invokevirtual 51, 3) := by decide +kernel
theorem dX3_twinsHold_20 : decode cX3_twinsHold 20 = .ok (.aload_n 1, 1) := by decide +kernel
theorem dX3_twinsHold_21 : decode cX3_twinsHold 21 = .ok (.iload_n 3, 1) := by decide +kernel
theorem dX3_twinsHold_22 : decode cX3_twinsHold 22 = .ok (.invokevirtual 51, 3) := by decide +kernel
theorem dX3_twinsHold_25 : decode cX3_twinsHold 25 = .ok (.invokevirtual 70, 3) := by decide +kernel
theorem dX3_twinsHold_28 : decode cX3_twinsHold 28 = .ok (.invokestatic 76, 3) := by decide +kernel
theorem dX3_twinsHold_31 : decode cX3_twinsHold 31 = .ok (.istore_n 2, 1) := by decide +kernel
theorem dX3_twinsHold_32 : decode cX3_twinsHold 32 = .ok (.iinc 3 1, 3) := by decide +kernel
theorem dX3_twinsHold_35 : decode cX3_twinsHold 35 = .ok (.goto (-31), 3) := by decide +kernel
theorem dX3_twinsHold_38 : decode cX3_twinsHold 38 = .ok (.aload_n 1, 1) := by decide +kernel
theorem dX3_twinsHold_39 : decode cX3_twinsHold 39 = .ok (.invokevirtual 79, 3) := by decide +kernel
theorem dX3_twinsHold_42 : decode cX3_twinsHold 42 = .ok (.iload_n 2, 1) := by decide +kernel
theorem dX3_twinsHold_43 : decode cX3_twinsHold 43 = .ok (.if_icmp .ne 7, 3) := by decide +kernel
theorem dX3_twinsHold_46 : decode cX3_twinsHold 46 = .ok (.iconst 1, 1) := by decide +kernel
theorem dX3_twinsHold_47 : decode cX3_twinsHold 47 = .ok (.goto 4, 3) := by decide +kernel
theorem dX3_twinsHold_50 : decode cX3_twinsHold 50 = .ok (.iconst 0, 1) := by decide +kernel
theorem dX3_twinsHold_51 : decode cX3_twinsHold 51 = .ok (.ireturn, 1) := by decide +kernel
set_option maxRecDepth 20000 in
theorem ggX3_cutsHold_X2_size : GoodIn wsX3_cutsHold wsX2_size := goodIn_r _ [5, 6, 20, 21] (by decide +kernel) (by decide +kernel)
set_option maxRecDepth 20000 in
theorem gX3_cutsHold_X2_size : GoodIn wsX3_cutsHold (wsV RX3 23 RX2 yX2_size wsX2_size) := goodIn_app (goodIn_of _ (by decide +kernel)) ggX3_cutsHold_X2_size
set_option maxRecDepth 20000 in
theorem ggX3_cutsHold_X1_fitsAt : GoodIn wsX3_cutsHold wsX1_fitsAt := goodIn_r _ [11, 12, 13, 22, 23, 24, 25] (by decide +kernel) (by decide +kernel)
set_option maxRecDepth 20000 in
theorem gX3_cutsHold_X1_fitsAt : GoodIn wsX3_cutsHold (wsV RX3 82 RX1 yX1_fitsAt wsX1_fitsAt) := goodIn_app (goodIn_of _ (by decide +kernel)) ggX3_cutsHold_X1_fitsAt
set_option maxRecDepth 20000 in
theorem ggX3_cutsHold_X1_countWays : GoodIn wsX3_cutsHold wsX1_countWays := goodIn_r _ [17, 12, 18, 19, 8, 9, 10, 11, 13, 22, 23, 24, 25] (by decide +kernel) (by decide +kernel)
set_option maxRecDepth 20000 in
theorem gX3_cutsHold_X1_countWays : GoodIn wsX3_cutsHold (wsV RX3 88 RX1 yX1_countWays wsX1_countWays) := goodIn_app (goodIn_of _ (by decide +kernel)) ggX3_cutsHold_X1_countWays
theorem dX3_cutsHold_0 : decode cX3_cutsHold 0 = .ok (.aload_n 1, 1) := by decide +kernel
theorem dX3_cutsHold_1 : decode cX3_cutsHold 1 = .ok (.invokevirtual 23, 3) := by decide +kernel
theorem dX3_cutsHold_4 : decode cX3_cutsHold 4 = .ok (.ifCond .ne 5, 3) := by decide +kernel
theorem dX3_cutsHold_7 : decode cX3_cutsHold 7 = .ok (.iconst 1, 1) := by decide +kernel
theorem dX3_cutsHold_8 : decode cX3_cutsHold 8 = .ok (.ireturn, 1) := by decide +kernel
theorem dX3_cutsHold_9 : decode cX3_cutsHold 9 = .ok (.lconst 0, 1) := by decide +kernel
theorem dX3_cutsHold_10 : decode cX3_cutsHold 10 = .ok (.lstore_n 3, 1) := by decide +kernel
theorem dX3_cutsHold_11 : decode cX3_cutsHold 11 = .ok (.iconst 1, 1) := by decide +kernel
theorem dX3_cutsHold_12 : decode cX3_cutsHold 12 = .ok (.istore 5, 2) := by decide +kernel
theorem dX3_cutsHold_14 : decode cX3_cutsHold 14 = .ok (.iload 5, 2) := by decide +kernel
theorem dX3_cutsHold_16 : decode cX3_cutsHold 16 = .ok (.bipush 10, 2) := by decide +kernel
theorem dX3_cutsHold_18 : decode cX3_cutsHold 18 = .ok (.if_icmp .gt 28, 3) := by decide +kernel
theorem dX3_cutsHold_21 : decode cX3_cutsHold 21 = .ok (.aload_n 2, 1) := by decide +kernel
theorem dX3_cutsHold_22 : decode cX3_cutsHold 22 = .ok (.iconst 0, 1) := by decide +kernel
theorem dX3_cutsHold_23 : decode cX3_cutsHold 23 = .ok (.iload 5, 2) := by decide +kernel
theorem dX3_cutsHold_25 : decode cX3_cutsHold 25 = .ok (.invokevirtual 82, 3) := by decide +kernel
theorem dX3_cutsHold_28 : decode cX3_cutsHold 28 = .ok (.ifCond .eq 12, 3) := by decide +kernel
theorem dX3_cutsHold_31 : decode cX3_cutsHold 31 = .ok (.lload_n 3, 1) := by decide +kernel
theorem dX3_cutsHold_32 : decode cX3_cutsHold 32 = .ok (.aload_n 2, 1) := by decide +kernel
theorem dX3_cutsHold_33 : decode cX3_cutsHold 33 = .ok (.iload 5, 2) := by decide +kernel
theorem dX3_cutsHold_35 : decode cX3_cutsHold 35 = .ok (.invokevirtual 88, 3) := by decide +kernel
theorem dX3_cutsHold_38 : decode cX3_cutsHold 38 = .ok (.ladd, 1) := by decide +kernel
theorem dX3_cutsHold_39 : decode cX3_cutsHold 39 = .ok (.lstore_n 3, 1) := by decide +kernel
theorem dX3_cutsHold_40 : decode cX3_cutsHold 40 = .ok (.iinc 5 1, 3) := by decide +kernel
theorem dX3_cutsHold_43 : decode cX3_cutsHold 43 = .ok (.goto (-29), 3) := by decide +kernel
theorem dX3_cutsHold_46 : decode cX3_cutsHold 46 = .ok (.aload_n 2, 1) := by decide +kernel
theorem dX3_cutsHold_47 : decode cX3_cutsHold 47 = .ok (.iconst 0, 1) := by decide +kernel
theorem dX3_cutsHold_48 : decode cX3_cutsHold 48 = .ok (.invokevirtual 88, 3) := by decide +kernel
theorem dX3_cutsHold_51 : decode cX3_cutsHold 51 = .ok (.lload_n 3, 1) := by decide +kernel
theorem dX3_cutsHold_52 : decode cX3_cutsHold 52 = .ok (.lcmp, 1) := by decide +kernel
theorem dX3_cutsHold_53 : decode cX3_cutsHold 53 = .ok (.ifCond .ne 7, 3) := by decide +kernel
theorem dX3_cutsHold_56 : decode cX3_cutsHold 56 = .ok (.iconst 1, 1) := by decide +kernel
theorem dX3_cutsHold_57 : decode cX3_cutsHold 57 = .ok (.goto 4, 3) := by decide +kernel
theorem dX3_cutsHold_60 : decode cX3_cutsHold 60 = .ok (.iconst 0, 1) := by decide +kernel
theorem dX3_cutsHold_61 : decode cX3_cutsHold 61 = .ok (.ireturn, 1) := by decide +kernel
set_option maxRecDepth 20000 in
theorem ggX3_fewestHolds_X1_leastPieces : GoodIn wsX3_fewestHolds wsX1_leastPieces := goodIn_r _ [5, 6, 7, 8, 9, 10, 4, 11, 12, 13, 14, 15, 16, 17, 18, 19, 86, 87, 88, 89] (by decide +kernel) (by decide +kernel)
set_option maxRecDepth 20000 in
theorem gX3_fewestHolds_X1_leastPieces : GoodIn wsX3_fewestHolds (wsV RX3 92 RX1 yX1_leastPieces wsX1_leastPieces) := goodIn_app (goodIn_of _ (by decide +kernel)) ggX3_fewestHolds_X1_leastPieces
set_option maxRecDepth 20000 in
theorem ggX3_fewestHolds_X1_countLongest : GoodIn wsX3_fewestHolds wsX1_countLongest := goodIn_r _ [23, 7, 24, 25, 26, 4, 27, 8, 9, 10, 11, 12, 86, 87, 88, 89] (by decide +kernel) (by decide +kernel)
set_option maxRecDepth 20000 in
theorem gX3_fewestHolds_X1_countLongest : GoodIn wsX3_fewestHolds (wsV RX3 95 RX1 yX1_countLongest wsX1_countLongest) := goodIn_app (goodIn_of _ (by decide +kernel)) ggX3_fewestHolds_X1_countLongest
set_option maxRecDepth 20000 in
theorem ggX3_fewestHolds_X3_endsAreWords : GoodIn wsX3_fewestHolds wsX3_endsAreWords := goodIn_r _ [32, 33, 34, 35, 36, 37, 38, 39, 40, 41, 42, 43, 44, 45, 46, 47, 48, 49, 50, 51, 52, 53, 54, 55, 56, 57, 58, 59, 60, 61, 62, 63, 64, 65, 66, 67, 68, 69, 70, 71, 72, 73, 74, 75, 76, 77, 78, 79, 80, 81, 82, 83, 84, 85, 90, 91, 92, 93, 94, 95, 96, 97] (by decide +kernel) (by decide +kernel)
set_option maxRecDepth 20000 in
theorem gX3_fewestHolds_X3_endsAreWords : GoodIn wsX3_fewestHolds (wsV RX3 98 RX3 yX3_endsAreWords wsX3_endsAreWords) := goodIn_app (goodIn_of _ (by decide +kernel)) ggX3_fewestHolds_X3_endsAreWords
theorem dX3_fewestHolds_0 : decode cX3_fewestHolds 0 = .ok (.aload_n 2, 1) := by decide +kernel
theorem dX3_fewestHolds_1 : decode cX3_fewestHolds 1 = .ok (.invokevirtual 92, 3) := by decide +kernel
theorem dX3_fewestHolds_4 : decode cX3_fewestHolds 4 = .ok (.istore_n 3, 1) := by decide +kernel
theorem dX3_fewestHolds_5 : decode cX3_fewestHolds 5 = .ok (.iload_n 3, 1) := by decide +kernel
theorem dX3_fewestHolds_6 : decode cX3_fewestHolds 6 = .ok (.iconst (-1), 1) := by decide +kernel
theorem dX3_fewestHolds_7 : decode cX3_fewestHolds 7 = .ok (.if_icmp .eq 19, 3) := by decide +kernel
theorem dX3_fewestHolds_10 : decode cX3_fewestHolds 10 = .ok (.aload_n 2, 1) := by decide +kernel
theorem dX3_fewestHolds_11 : decode cX3_fewestHolds 11 = .ok (.invokevirtual 95, 3) := by decide +kernel
theorem dX3_fewestHolds_14 : decode cX3_fewestHolds 14 = .ok (.iload_n 3, 1) := by decide +kernel
theorem dX3_fewestHolds_15 : decode cX3_fewestHolds 15 = .ok (.if_icmp .eq 11, 3) := by decide +kernel
theorem dX3_fewestHolds_18 : decode cX3_fewestHolds 18 = .ok (.aload_n 0, 1) := by decide +kernel
theorem dX3_fewestHolds_19 : decode cX3_fewestHolds 19 = .ok (.aload_n 1, 1) := by decide +kernel
theorem dX3_fewestHolds_20 : decode cX3_fewestHolds 20 = .ok (.invokevirtual 98, 3) := by decide +kernel
theorem dX3_fewestHolds_23 : decode cX3_fewestHolds 23 = .ok (.ifCond .ne 7, 3) := by decide +kernel
theorem dX3_fewestHolds_26 : decode cX3_fewestHolds 26 = .ok (.iconst 1, 1) := by decide +kernel
theorem dX3_fewestHolds_27 : decode cX3_fewestHolds 27 = .ok (.goto 4, 3) := by decide +kernel
theorem dX3_fewestHolds_30 : decode cX3_fewestHolds 30 = .ok (.iconst 0, 1) := by decide +kernel
theorem dX3_fewestHolds_31 : decode cX3_fewestHolds 31 = .ok (.ireturn, 1) := by decide +kernel
set_option maxRecDepth 20000 in
theorem ggX3_endsAreWords_X4_size : GoodIn wsX3_endsAreWords wsX4_size := goodIn_r _ [6, 7, 56, 57, 58, 59] (by decide +kernel) (by decide +kernel)
set_option maxRecDepth 20000 in
theorem gX3_endsAreWords_X4_size : GoodIn wsX3_endsAreWords (wsV RX3 50 RX4 yX4_size wsX4_size) := goodIn_app (goodIn_of _ (by decide +kernel)) ggX3_endsAreWords_X4_size
set_option maxRecDepth 20000 in
theorem ggX3_endsAreWords_X4_rowAt : GoodIn wsX3_endsAreWords wsX4_rowAt := goodIn_r _ [11, 7, 12, 13, 56, 57, 58, 59] (by decide +kernel) (by decide +kernel)
set_option maxRecDepth 20000 in
theorem gX3_endsAreWords_X4_rowAt : GoodIn wsX3_endsAreWords (wsV RX3 51 RX4 yX4_rowAt wsX4_rowAt) := goodIn_app (goodIn_of _ (by decide +kernel)) ggX3_endsAreWords_X4_rowAt
set_option maxRecDepth 20000 in
theorem ggX3_endsAreWords_X2_size : GoodIn wsX3_endsAreWords wsX2_size := goodIn_r _ [18, 19, 60, 61] (by decide +kernel) (by decide +kernel)
set_option maxRecDepth 20000 in
theorem gX3_endsAreWords_X2_size : GoodIn wsX3_endsAreWords (wsV RX3 23 RX2 yX2_size wsX2_size) := goodIn_app (goodIn_of _ (by decide +kernel)) ggX3_endsAreWords_X2_size
set_option maxRecDepth 20000 in
theorem ggX3_endsAreWords_X2_becomePart : GoodIn wsX3_endsAreWords wsX2_becomePart := goodIn_r _ [23, 24, 25, 26, 17, 27, 19, 28, 29, 30, 31, 32, 33, 34, 35, 36, 60, 61] (by decide +kernel) (by decide +kernel)
set_option maxRecDepth 20000 in
theorem gX3_endsAreWords_X2_becomePart : GoodIn wsX3_endsAreWords (wsV RX3 33 RX2 yX2_becomePart wsX2_becomePart) := goodIn_app (goodIn_of _ (by decide +kernel)) ggX3_endsAreWords_X2_becomePart
set_option maxRecDepth 20000 in
theorem ggX3_endsAreWords_X4_rankOf : GoodIn wsX3_endsAreWords wsX4_rankOf := goodIn_r _ [40, 7, 41, 42, 43, 5, 44, 45, 9, 10, 11, 12, 13, 46, 47, 48, 17, 49, 19, 32, 50, 51, 52, 53, 56, 57, 58, 59, 60, 61] (by decide +kernel) (by decide +kernel)
set_option maxRecDepth 20000 in
theorem gX3_endsAreWords_X4_rankOf : GoodIn wsX3_endsAreWords (wsV RX3 101 RX4 yX4_rankOf wsX4_rankOf) := goodIn_app (goodIn_of _ (by decide +kernel)) ggX3_endsAreWords_X4_rankOf
theorem dX3_endsAreWords_0 : decode cX3_endsAreWords 0 = .ok (.iconst 0, 1) := by decide +kernel
theorem dX3_endsAreWords_1 : decode cX3_endsAreWords 1 = .ok (.istore_n 2, 1) := by decide +kernel
theorem dX3_endsAreWords_2 : decode cX3_endsAreWords 2 = .ok (.iload_n 2, 1) := by decide +kernel
theorem dX3_endsAreWords_3 : decode cX3_endsAreWords 3 = .ok (.aload_n 1, 1) := by decide +kernel
theorem dX3_endsAreWords_4 : decode cX3_endsAreWords 4 = .ok (.invokevirtual 50, 3) := by decide +kernel
theorem dX3_endsAreWords_7 : decode cX3_endsAreWords 7 = .ok (.if_icmp .ge 61, 3) := by decide +kernel
theorem dX3_endsAreWords_10 : decode cX3_endsAreWords 10 = .ok (.aload_n 1, 1) := by decide +kernel
theorem dX3_endsAreWords_11 : decode cX3_endsAreWords 11 = .ok (.iload_n 2, 1) := by decide +kernel
theorem dX3_endsAreWords_12 : decode cX3_endsAreWords 12 = .ok (.invokevirtual 51, 3) := by decide +kernel
theorem dX3_endsAreWords_15 : decode cX3_endsAreWords 15 = .ok (.astore_n 3, 1) := by decide +kernel
theorem dX3_endsAreWords_16 : decode cX3_endsAreWords 16 = .ok (.iconst 1, 1) := by decide +kernel
theorem dX3_endsAreWords_17 : decode cX3_endsAreWords 17 = .ok (.istore 4, 2) := by decide +kernel
theorem dX3_endsAreWords_19 : decode cX3_endsAreWords 19 = .ok (.iload 4, 2) := by decide +kernel
theorem dX3_endsAreWords_21 : decode cX3_endsAreWords 21 = .ok (.aload_n 3, 1) := by decide +kernel
theorem dX3_endsAreWords_22 : decode cX3_endsAreWords 22 = .ok (.invokevirtual 23, 3) := by decide +kernel
theorem dX3_endsAreWords_25 : decode cX3_endsAreWords 25 = .ok (.if_icmp .ge 37, 3) := by decide +kernel
theorem dX3_endsAreWords_28 : decode cX3_endsAreWords 28 = .ok (.aload_n 0, 1) := by decide +kernel
theorem dX3_endsAreWords_29 : decode cX3_endsAreWords 29 = .ok (.getfield 14, 3) := by decide +kernel
theorem dX3_endsAreWords_32 : decode cX3_endsAreWords 32 = .ok (.aload_n 3, 1) := by decide +kernel
theorem dX3_endsAreWords_33 : decode cX3_endsAreWords 33 = .ok (.iload 4, 2) := by decide +kernel
theorem dX3_endsAreWords_35 : decode cX3_endsAreWords 35 = .ok (.aload_n 3, 1) := by decide +kernel
theorem dX3_endsAreWords_36 : decode cX3_endsAreWords 36 = .ok (.invokevirtual 23, 3) := by decide +kernel
theorem dX3_endsAreWords_39 : decode cX3_endsAreWords 39 = .ok (.invokevirtual 33, 3) := by decide +kernel
theorem dX3_endsAreWords_42 : decode cX3_endsAreWords 42 = .ok (.aload_n 1, 1) := by decide +kernel
theorem dX3_endsAreWords_43 : decode cX3_endsAreWords 43 = .ok (.aload_n 0, 1) := by decide +kernel
theorem dX3_endsAreWords_44 : decode cX3_endsAreWords 44 = .ok (.getfield 14, 3) := by decide +kernel
theorem dX3_endsAreWords_47 : decode cX3_endsAreWords 47 = .ok (.invokevirtual 101, 3) := by decide +kernel
theorem dX3_endsAreWords_50 : decode cX3_endsAreWords 50 = .ok (.iconst (-1), 1) := by decide +kernel
theorem dX3_endsAreWords_51 : decode cX3_endsAreWords 51 = .ok (.if_icmp .ne 5, 3) := by decide +kernel
theorem dX3_endsAreWords_54 : decode cX3_endsAreWords 54 = .ok (.iconst 0, 1) := by decide +kernel
theorem dX3_endsAreWords_55 : decode cX3_endsAreWords 55 = .ok (.ireturn, 1) := by decide +kernel
theorem dX3_endsAreWords_56 : decode cX3_endsAreWords 56 = .ok (.iinc 4 1, 3) := by decide +kernel
theorem dX3_endsAreWords_59 : decode cX3_endsAreWords 59 = .ok (.goto (-40), 3) := by decide +kernel
theorem dX3_endsAreWords_62 : decode cX3_endsAreWords 62 = .ok (.iinc 2 1, 3) := by decide +kernel
theorem dX3_endsAreWords_65 : decode cX3_endsAreWords 65 = .ok (.goto (-63), 3) := by decide +kernel
theorem dX3_endsAreWords_68 : decode cX3_endsAreWords 68 = .ok (.iconst 1, 1) := by decide +kernel
theorem dX3_endsAreWords_69 : decode cX3_endsAreWords 69 = .ok (.ireturn, 1) := by decide +kernel
set_option maxRecDepth 20000 in
theorem ggX3_codesHold_X0_isOrderly : GoodIn wsX3_codesHold wsX0_isOrderly := goodIn_r _ [5, 6, 7, 8, 9, 10, 11, 12, 13, 14, 15, 16, 17, 18, 19, 20, 21, 22, 23, 24, 25, 88, 89, 90, 91, 92] (by decide +kernel) (by decide +kernel)
set_option maxRecDepth 20000 in
theorem gX3_codesHold_X0_isOrderly : GoodIn wsX3_codesHold (wsV RX3 104 RX0 yX0_isOrderly wsX0_isOrderly) := goodIn_app (goodIn_of _ (by decide +kernel)) ggX3_codesHold_X0_isOrderly
set_option maxRecDepth 20000 in
theorem ggX3_codesHold_X0_writeWords : GoodIn wsX3_codesHold wsX0_writeWords := goodIn_r _ [29, 30, 31, 32, 33, 34, 35, 36, 37, 38, 39, 40, 41, 42, 43, 44, 4, 45, 46, 47, 48, 49, 50, 51, 52, 53, 54, 10, 55, 12, 56, 57, 58, 59, 60, 61, 62, 63, 13, 64, 65, 66, 67, 6, 68, 69, 70, 71, 72, 73, 74, 75, 76, 77, 78, 93, 94, 95, 96, 88, 89, 90, 91, 92] (by decide +kernel) (by decide +kernel)
set_option maxRecDepth 20000 in
theorem gX3_codesHold_X0_writeWords : GoodIn wsX3_codesHold (wsV RX3 110 RX0 yX0_writeWords wsX0_writeWords) := goodIn_app (goodIn_of _ (by decide +kernel)) ggX3_codesHold_X0_writeWords
set_option maxRecDepth 20000 in
theorem ggX3_codesHold_X4_size : GoodIn wsX3_codesHold wsX4_size := goodIn_r _ [34, 35, 93, 94, 95, 96] (by decide +kernel) (by decide +kernel)
set_option maxRecDepth 20000 in
theorem gX3_codesHold_X4_size : GoodIn wsX3_codesHold (wsV RX3 50 RX4 yX4_size wsX4_size) := goodIn_app (goodIn_of _ (by decide +kernel)) ggX3_codesHold_X4_size
set_option maxRecDepth 20000 in
theorem ggX3_codesHold_X3_keepsOrder : GoodIn wsX3_codesHold wsX3_keepsOrder := goodIn_r _ [83, 84, 43, 44, 4, 45, 46, 47, 85, 8, 9, 10, 11, 12, 13, 14, 15, 16, 17, 86, 19, 20, 21, 22, 23, 24, 25, 87, 37, 38, 33, 39, 35, 40, 41, 88, 89, 90, 91, 92, 93, 94, 95, 96] (by decide +kernel) (by decide +kernel)
set_option maxRecDepth 20000 in
theorem gX3_codesHold_X3_keepsOrder : GoodIn wsX3_codesHold (va_wsS RX3 114 yX3_keepsOrder wsX3_keepsOrder) := goodIn_app (goodIn_of _ (by decide +kernel)) ggX3_codesHold_X3_keepsOrder
theorem dX3_codesHold_0 : decode cX3_codesHold 0 = .ok (.aload_n 2, 1) := by decide +kernel
theorem dX3_codesHold_1 : decode cX3_codesHold 1 = .ok (.invokevirtual 104, 3) := by decide +kernel
theorem dX3_codesHold_4 : decode cX3_codesHold 4 = .ok (.ifCond .ne 5, 3) := by decide +kernel
theorem dX3_codesHold_7 : decode cX3_codesHold 7 = .ok (.iconst 1, 1) := by decide +kernel
theorem dX3_codesHold_8 : decode cX3_codesHold 8 = .ok (.ireturn, 1) := by decide +kernel
theorem dX3_codesHold_9 : decode cX3_codesHold 9 = .ok (.aload_n 2, 1) := by decide +kernel
theorem dX3_codesHold_10 : decode cX3_codesHold 10 = .ok (.aload_n 1, 1) := by decide +kernel
theorem dX3_codesHold_11 : decode cX3_codesHold 11 = .ok (.invokevirtual 110, 3) := by decide +kernel
theorem dX3_codesHold_14 : decode cX3_codesHold 14 = .ok (.iconst 0, 1) := by decide +kernel
theorem dX3_codesHold_15 : decode cX3_codesHold 15 = .ok (.istore_n 3, 1) := by decide +kernel
theorem dX3_codesHold_16 : decode cX3_codesHold 16 = .ok (.iload_n 3, 1) := by decide +kernel
theorem dX3_codesHold_17 : decode cX3_codesHold 17 = .ok (.aload_n 1, 1) := by decide +kernel
theorem dX3_codesHold_18 : decode cX3_codesHold 18 = .ok (.invokevirtual 50, 3) := by decide +kernel
theorem dX3_codesHold_21 : decode cX3_codesHold 21 = .ok (.if_icmp .ge 42, 3) := by decide +kernel
theorem dX3_codesHold_24 : decode cX3_codesHold 24 = .ok (.iload_n 3, 1) := by decide +kernel
theorem dX3_codesHold_25 : decode cX3_codesHold 25 = .ok (.iconst 1, 1) := by decide +kernel
theorem dX3_codesHold_26 : decode cX3_codesHold 26 = .ok (.iadd, 1) := by decide +kernel
theorem dX3_codesHold_27 : decode cX3_codesHold 27 = .ok (.istore 4, 2) := by decide +kernel
theorem dX3_codesHold_29 : decode cX3_codesHold 29 = .ok (.iload 4, 2) := by decide +kernel
theorem dX3_codesHold_31 : decode cX3_codesHold 31 = .ok (.aload_n 1, 1) := by decide +kernel
theorem dX3_codesHold_32 : decode cX3_codesHold 32 = .ok (.invokevirtual 50, 3) := by decide +kernel
theorem dX3_codesHold_35 : decode cX3_codesHold 35 = .ok (.if_icmp .ge 22, 3) := by decide +kernel
theorem dX3_codesHold_38 : decode cX3_codesHold 38 = .ok (.iload_n 3, 1) := by decide +kernel
theorem dX3_codesHold_39 : decode cX3_codesHold 39 = .ok (.iload 4, 2) := by decide +kernel
theorem dX3_codesHold_41 : decode cX3_codesHold 41 = .ok (.aload_n 1, 1) := by decide +kernel
theorem dX3_codesHold_42 : decode cX3_codesHold 42 = .ok (.aload_n 2, 1) := by decide +kernel
theorem dX3_codesHold_43 : decode cX3_codesHold 43 = .ok (.invokestatic 114, 3) := by decide +kernel
theorem dX3_codesHold_46 : decode cX3_codesHold 46 = .ok (.ifCond .ne 5, 3) := by decide +kernel
theorem dX3_codesHold_49 : decode cX3_codesHold 49 = .ok (.iconst 0, 1) := by decide +kernel
theorem dX3_codesHold_50 : decode cX3_codesHold 50 = .ok (.ireturn, 1) := by decide +kernel
theorem dX3_codesHold_51 : decode cX3_codesHold 51 = .ok (.iinc 4 1, 3) := by decide +kernel
theorem dX3_codesHold_54 : decode cX3_codesHold 54 = .ok (.goto (-25), 3) := by decide +kernel
theorem dX3_codesHold_57 : decode cX3_codesHold 57 = .ok (.iinc 3 1, 3) := by decide +kernel
theorem dX3_codesHold_60 : decode cX3_codesHold 60 = .ok (.goto (-44), 3) := by decide +kernel
theorem dX3_codesHold_63 : decode cX3_codesHold 63 = .ok (.iconst 1, 1) := by decide +kernel
theorem dX3_codesHold_64 : decode cX3_codesHold 64 = .ok (.ireturn, 1) := by decide +kernel
set_option maxRecDepth 20000 in
theorem ggX3_keepsOrder_X0_writtenAt : GoodIn wsX3_keepsOrder wsX0_writtenAt := goodIn_r _ [5, 6, 7, 35, 36, 37] (by decide +kernel) (by decide +kernel)
set_option maxRecDepth 20000 in
theorem gX3_keepsOrder_X0_writtenAt : GoodIn wsX3_keepsOrder (wsV RX3 118 RX0 yX0_writtenAt wsX0_writtenAt) := goodIn_app (goodIn_of _ (by decide +kernel)) ggX3_keepsOrder_X0_writtenAt
set_option maxRecDepth 20000 in
theorem ggX3_keepsOrder_X2_compareWith : GoodIn wsX3_keepsOrder wsX2_compareWith := goodIn_r _ [12, 13, 14, 15, 16, 17, 11, 18, 38, 39] (by decide +kernel) (by decide +kernel)
set_option maxRecDepth 20000 in
theorem gX3_keepsOrder_X2_compareWith : GoodIn wsX3_keepsOrder (wsV RX3 121 RX2 yX2_compareWith wsX2_compareWith) := goodIn_app (goodIn_of _ (by decide +kernel)) ggX3_keepsOrder_X2_compareWith
set_option maxRecDepth 20000 in
theorem ggX3_keepsOrder_X2_beginsWith : GoodIn wsX3_keepsOrder wsX2_beginsWith := goodIn_r _ [22, 23, 24, 25, 11, 26, 13, 14, 38, 39] (by decide +kernel) (by decide +kernel)
set_option maxRecDepth 20000 in
theorem gX3_keepsOrder_X2_beginsWith : GoodIn wsX3_keepsOrder (wsV RX3 55 RX2 yX2_beginsWith wsX2_beginsWith) := goodIn_app (goodIn_of _ (by decide +kernel)) ggX3_keepsOrder_X2_beginsWith
set_option maxRecDepth 20000 in
theorem ggX3_keepsOrder_X4_rowAt : GoodIn wsX3_keepsOrder wsX4_rowAt := goodIn_r _ [31, 32, 33, 34, 40, 41, 42, 43] (by decide +kernel) (by decide +kernel)
set_option maxRecDepth 20000 in
theorem gX3_keepsOrder_X4_rowAt : GoodIn wsX3_keepsOrder (wsV RX3 51 RX4 yX4_rowAt wsX4_rowAt) := goodIn_app (goodIn_of _ (by decide +kernel)) ggX3_keepsOrder_X4_rowAt
theorem dX3_keepsOrder_0 : decode cX3_keepsOrder 0 = .ok (.aload_n 3, 1) := by decide +kernel
theorem dX3_keepsOrder_1 : decode cX3_keepsOrder 1 = .ok (.iload_n 0, 1) := by decide +kernel
theorem dX3_keepsOrder_2 : decode cX3_keepsOrder 2 = .ok (.invokevirtual 118, 3) := by decide +kernel
theorem dX3_keepsOrder_5 : decode cX3_keepsOrder 5 = .ok (.astore 4, 2) := by decide +kernel
theorem dX3_keepsOrder_7 : decode cX3_keepsOrder 7 = .ok (.aload_n 3, 1) := by decide +kernel
theorem dX3_keepsOrder_8 : decode cX3_keepsOrder 8 = .ok (.iload_n 1, 1) := by decide +kernel
theorem dX3_keepsOrder_9 : decode cX3_keepsOrder 9 = .ok (.invokevirtual 118, 3) := by decide +kernel
theorem dX3_keepsOrder_12 : decode cX3_keepsOrder 12 = .ok (.astore 5, 2) := by decide +kernel
theorem dX3_keepsOrder_14 : decode cX3_keepsOrder 14 = .ok (.aload 4, 2) := by decide +kernel
theorem dX3_keepsOrder_16 : decode cX3_keepsOrder 16 = .ok (.aload 5, 2) := by decide +kernel
theorem dX3_keepsOrder_18 : decode cX3_keepsOrder 18 = .ok (.invokevirtual 121, 3) := by decide +kernel
theorem dX3_keepsOrder_21 : decode cX3_keepsOrder 21 = .ok (.ifCond .ge 40, 3) := by decide +kernel
theorem dX3_keepsOrder_24 : decode cX3_keepsOrder 24 = .ok (.aload 4, 2) := by decide +kernel
theorem dX3_keepsOrder_26 : decode cX3_keepsOrder 26 = .ok (.aload 5, 2) := by decide +kernel
theorem dX3_keepsOrder_28 : decode cX3_keepsOrder 28 = .ok (.invokevirtual 55, 3) := by decide +kernel
theorem dX3_keepsOrder_31 : decode cX3_keepsOrder 31 = .ok (.ifCond .ne 30, 3) := by decide +kernel
theorem dX3_keepsOrder_34 : decode cX3_keepsOrder 34 = .ok (.aload 5, 2) := by decide +kernel
theorem dX3_keepsOrder_36 : decode cX3_keepsOrder 36 = .ok (.aload 4, 2) := by decide +kernel
theorem dX3_keepsOrder_38 : decode cX3_keepsOrder 38 = .ok (.invokevirtual 55, 3) := by decide +kernel
theorem dX3_keepsOrder_41 : decode cX3_keepsOrder 41 = .ok (.aload_n 2, 1) := by decide +kernel
theorem dX3_keepsOrder_42 : decode cX3_keepsOrder 42 = .ok (.iload_n 1, 1) := by decide +kernel
theorem dX3_keepsOrder_43 : decode cX3_keepsOrder 43 = .ok (.invokevirtual 51, 3) := by decide +kernel
theorem dX3_keepsOrder_46 : decode cX3_keepsOrder 46 = .ok (.aload_n 2, 1) := by decide +kernel
theorem dX3_keepsOrder_47 : decode cX3_keepsOrder 47 = .ok (.iload_n 0, 1) := by decide +kernel
theorem dX3_keepsOrder_48 : decode cX3_keepsOrder 48 = .ok (.invokevirtual 51, 3) := by decide +kernel
theorem dX3_keepsOrder_51 : decode cX3_keepsOrder 51 = .ok (.invokevirtual 55, 3) := by decide +kernel
theorem dX3_keepsOrder_54 : decode cX3_keepsOrder 54 = .ok (.if_icmp .ne 7, 3) := by decide +kernel
theorem dX3_keepsOrder_57 : decode cX3_keepsOrder 57 = .ok (.iconst 1, 1) := by decide +kernel
theorem dX3_keepsOrder_58 : decode cX3_keepsOrder 58 = .ok (.goto 4, 3) := by decide +kernel
theorem dX3_keepsOrder_61 : decode cX3_keepsOrder 61 = .ok (.iconst 0, 1) := by decide +kernel
theorem dX3_keepsOrder_62 : decode cX3_keepsOrder 62 = .ok (.ireturn, 1) := by decide +kernel
set_option maxRecDepth 20000 in
theorem ggX4_init_X2_init : GoodIn wsX4_init wsX2_init := goodIn_r _ [14, 15, 2, 3, 16, 17, 18, 19, 20, 21, 22, 27, 28] (by decide +kernel) (by decide +kernel)
set_option maxRecDepth 20000 in
theorem gX4_init_X2_init : GoodIn wsX4_init (wsX2_init) := ggX4_init_X2_init
theorem dX4_init_0 : decode cX4_init 0 = .ok (.aload_n 0, 1) := by decide +kernel
theorem dX4_init_1 : decode cX4_init 1 = .ok (.invokespecial 3, 3) := by decide +kernel
theorem dX4_init_4 : decode cX4_init 4 = .ok (.aload_n 0, 1) := by decide +kernel
theorem dX4_init_5 : decode cX4_init 5 = .ok (.bipush 24, 2) := by decide +kernel
theorem dX4_init_7 : decode cX4_init 7 = .ok (.anewarray 9, 3) := by decide +kernel
theorem dX4_init_10 : decode cX4_init 10 = .ok (.putfield 11, 3) := by decide +kernel
theorem dX4_init_13 : decode cX4_init 13 = .ok (.iconst 0, 1) := by decide +kernel
theorem dX4_init_14 : decode cX4_init 14 = .ok (.istore_n 1, 1) := by decide +kernel
theorem dX4_init_15 : decode cX4_init 15 = .ok (.iload_n 1, 1) := by decide +kernel
theorem dX4_init_16 : decode cX4_init 16 = .ok (.aload_n 0, 1) := by decide +kernel
theorem dX4_init_17 : decode cX4_init 17 = .ok (.getfield 11, 3) := by decide +kernel
theorem dX4_init_20 : decode cX4_init 20 = .ok (.arraylength, 1) := by decide +kernel
theorem dX4_init_21 : decode cX4_init 21 = .ok (.if_icmp .ge 24, 3) := by decide +kernel
theorem dX4_init_24 : decode cX4_init 24 = .ok (.aload_n 0, 1) := by decide +kernel
theorem dX4_init_25 : decode cX4_init 25 = .ok (.getfield 11, 3) := by decide +kernel
theorem dX4_init_28 : decode cX4_init 28 = .ok (.iload_n 1, 1) := by decide +kernel
theorem dX4_init_29 : decode cX4_init 29 = .ok (.new 9, 3) := by decide +kernel
theorem dX4_init_32 : decode cX4_init 32 = .ok (.dup, 1) := by decide +kernel
theorem dX4_init_33 : decode cX4_init 33 = .ok (.bipush 10, 2) := by decide +kernel
theorem dX4_init_35 : decode cX4_init 35 = .ok (.invokespecial 17, 3) := by decide +kernel
theorem dX4_init_38 : decode cX4_init 38 = .ok (.aastore, 1) := by decide +kernel
theorem dX4_init_39 : decode cX4_init 39 = .ok (.iinc 1 1, 3) := by decide +kernel
theorem dX4_init_42 : decode cX4_init 42 = .ok (.goto (-27), 3) := by decide +kernel
theorem dX4_init_45 : decode cX4_init 45 = .ok (.aload_n 0, 1) := by decide +kernel
theorem dX4_init_46 : decode cX4_init 46 = .ok (.bipush 24, 2) := by decide +kernel
theorem dX4_init_48 : decode cX4_init 48 = .ok (.newarray .int, 2) := by decide +kernel
theorem dX4_init_50 : decode cX4_init 50 = .ok (.putfield 20, 3) := by decide +kernel
theorem dX4_init_53 : decode cX4_init 53 = .ok (.aload_n 0, 1) := by decide +kernel
theorem dX4_init_54 : decode cX4_init 54 = .ok (.new 9, 3) := by decide +kernel
theorem dX4_init_57 : decode cX4_init 57 = .ok (.dup, 1) := by decide +kernel
theorem dX4_init_58 : decode cX4_init 58 = .ok (.iconst 0, 1) := by decide +kernel
theorem dX4_init_59 : decode cX4_init 59 = .ok (.invokespecial 17, 3) := by decide +kernel
theorem dX4_init_62 : decode cX4_init 62 = .ok (.putfield 24, 3) := by decide +kernel
theorem dX4_init_65 : decode cX4_init 65 = .ok (.aload_n 0, 1) := by decide +kernel
theorem dX4_init_66 : decode cX4_init 66 = .ok (.iconst 0, 1) := by decide +kernel
theorem dX4_init_67 : decode cX4_init 67 = .ok (.putfield 28, 3) := by decide +kernel
theorem dX4_init_70 : decode cX4_init 70 = .ok (.return_, 1) := by decide +kernel
theorem dX4_size_0 : decode cX4_size 0 = .ok (.aload_n 0, 1) := by decide +kernel
theorem dX4_size_1 : decode cX4_size 1 = .ok (.getfield 28, 3) := by decide +kernel
theorem dX4_size_4 : decode cX4_size 4 = .ok (.ireturn, 1) := by decide +kernel
theorem dX4_rowAt_0 : decode cX4_rowAt 0 = .ok (.iload_n 1, 1) := by decide +kernel
theorem dX4_rowAt_1 : decode cX4_rowAt 1 = .ok (.ifCond .lt 20, 3) := by decide +kernel
theorem dX4_rowAt_4 : decode cX4_rowAt 4 = .ok (.iload_n 1, 1) := by decide +kernel
theorem dX4_rowAt_5 : decode cX4_rowAt 5 = .ok (.aload_n 0, 1) := by decide +kernel
theorem dX4_rowAt_6 : decode cX4_rowAt 6 = .ok (.getfield 28, 3) := by decide +kernel
theorem dX4_rowAt_9 : decode cX4_rowAt 9 = .ok (.if_icmp .ge 12, 3) := by decide +kernel
theorem dX4_rowAt_12 : decode cX4_rowAt 12 = .ok (.aload_n 0, 1) := by decide +kernel
theorem dX4_rowAt_13 : decode cX4_rowAt 13 = .ok (.getfield 11, 3) := by decide +kernel
theorem dX4_rowAt_16 : decode cX4_rowAt 16 = .ok (.iload_n 1, 1) := by decide +kernel
theorem dX4_rowAt_17 : decode cX4_rowAt 17 = .ok (.aaload, 1) := by decide +kernel
theorem dX4_rowAt_18 : decode cX4_rowAt 18 = .ok (.goto 7, 3) := by decide +kernel
theorem dX4_rowAt_21 : decode cX4_rowAt 21 = .ok (.aload_n 0, 1) := by decide +kernel
theorem dX4_rowAt_22 : decode cX4_rowAt 22 = .ok (.getfield 24, 3) := by decide +kernel
theorem dX4_rowAt_25 : decode cX4_rowAt 25 = .ok (.areturn, 1) := by decide +kernel
theorem dX4_numberAt_0 : decode cX4_numberAt 0 = .ok (.iload_n 1, 1) := by decide +kernel
theorem dX4_numberAt_1 : decode cX4_numberAt 1 = .ok (.ifCond .lt 20, 3) := by decide +kernel
theorem dX4_numberAt_4 : decode cX4_numberAt 4 = .ok (.iload_n 1, 1) := by decide +kernel
theorem dX4_numberAt_5 : decode cX4_numberAt 5 = .ok (.aload_n 0, 1) := by decide +kernel
theorem dX4_numberAt_6 : decode cX4_numberAt 6 = .ok (.getfield 28, 3) := by decide +kernel
theorem dX4_numberAt_9 : decode cX4_numberAt 9 = .ok (.if_icmp .ge 12, 3) := by decide +kernel
theorem dX4_numberAt_12 : decode cX4_numberAt 12 = .ok (.aload_n 0, 1) := by decide +kernel
theorem dX4_numberAt_13 : decode cX4_numberAt 13 = .ok (.getfield 20, 3) := by decide +kernel
theorem dX4_numberAt_16 : decode cX4_numberAt 16 = .ok (.iload_n 1, 1) := by decide +kernel
theorem dX4_numberAt_17 : decode cX4_numberAt 17 = .ok (.iaload, 1) := by decide +kernel
theorem dX4_numberAt_18 : decode cX4_numberAt 18 = .ok (.goto 4, 3) := by decide +kernel
theorem dX4_numberAt_21 : decode cX4_numberAt 21 = .ok (.iconst (-1), 1) := by decide +kernel
theorem dX4_numberAt_22 : decode cX4_numberAt 22 = .ok (.ireturn, 1) := by decide +kernel
theorem dX4_setNumber_0 : decode cX4_setNumber 0 = .ok (.iload_n 1, 1) := by decide +kernel
theorem dX4_setNumber_1 : decode cX4_setNumber 1 = .ok (.ifCond .lt 18, 3) := by decide +kernel
theorem dX4_setNumber_4 : decode cX4_setNumber 4 = .ok (.iload_n 1, 1) := by decide +kernel
theorem dX4_setNumber_5 : decode cX4_setNumber 5 = .ok (.aload_n 0, 1) := by decide +kernel
theorem dX4_setNumber_6 : decode cX4_setNumber 6 = .ok (.getfield 28, 3) := by decide +kernel
theorem dX4_setNumber_9 : decode cX4_setNumber 9 = .ok (.if_icmp .ge 10, 3) := by decide +kernel
theorem dX4_setNumber_12 : decode cX4_setNumber 12 = .ok (.aload_n 0, 1) := by decide +kernel
theorem dX4_setNumber_13 : decode cX4_setNumber 13 = .ok (.getfield 20, 3) := by decide +kernel
theorem dX4_setNumber_16 : decode cX4_setNumber 16 = .ok (.iload_n 1, 1) := by decide +kernel
theorem dX4_setNumber_17 : decode cX4_setNumber 17 = .ok (.iload_n 2, 1) := by decide +kernel
theorem dX4_setNumber_18 : decode cX4_setNumber 18 = .ok (.iastore, 1) := by decide +kernel
theorem dX4_setNumber_19 : decode cX4_setNumber 19 = .ok (.return_, 1) := by decide +kernel
set_option maxRecDepth 20000 in
theorem ggX4_countLess_X4_rowAt : GoodIn wsX4_countLess wsX4_rowAt := goodIn_r _ [6, 1, 7, 8, 20, 21, 22, 23] (by decide +kernel) (by decide +kernel)
set_option maxRecDepth 20000 in
theorem gX4_countLess_X4_rowAt : GoodIn wsX4_countLess (wsV RX4 32 RX4 yX4_rowAt wsX4_rowAt) := goodIn_app (goodIn_of _ (by decide +kernel)) ggX4_countLess_X4_rowAt
set_option maxRecDepth 20000 in
theorem ggX4_countLess_X2_compareWith : GoodIn wsX4_countLess wsX2_compareWith := goodIn_r _ [13, 14, 15, 16, 17, 18, 12, 19, 24, 25] (by decide +kernel) (by decide +kernel)
set_option maxRecDepth 20000 in
theorem gX4_countLess_X2_compareWith : GoodIn wsX4_countLess (wsV RX4 36 RX2 yX2_compareWith wsX2_compareWith) := goodIn_app (goodIn_of _ (by decide +kernel)) ggX4_countLess_X2_compareWith
theorem dX4_countLess_0 : decode cX4_countLess 0 = .ok (.iconst 0, 1) := by decide +kernel
theorem dX4_countLess_1 : decode cX4_countLess 1 = .ok (.istore_n 2, 1) := by decide +kernel
theorem dX4_countLess_2 : decode cX4_countLess 2 = .ok (.iload_n 2, 1) := by decide +kernel
theorem dX4_countLess_3 : decode cX4_countLess 3 = .ok (.aload_n 0, 1) := by decide +kernel
theorem dX4_countLess_4 : decode cX4_countLess 4 = .ok (.getfield 28, 3) := by decide +kernel
theorem dX4_countLess_7 : decode cX4_countLess 7 = .ok (.if_icmp .ge 21, 3) := by decide +kernel
theorem dX4_countLess_10 : decode cX4_countLess 10 = .ok (.aload_n 0, 1) := by decide +kernel
theorem dX4_countLess_11 : decode cX4_countLess 11 = .ok (.iload_n 2, 1) := by decide +kernel
theorem dX4_countLess_12 : decode cX4_countLess 12 = .ok (.invokevirtual 32, 3) := by decide +kernel
theorem dX4_countLess_15 : decode cX4_countLess 15 = .ok (.aload_n 1, 1) := by decide +kernel
theorem dX4_countLess_16 : decode cX4_countLess 16 = .ok (.invokevirtual 36, 3) := by decide +kernel
theorem dX4_countLess_19 : decode cX4_countLess 19 = .ok (.ifCond .ge 9, 3) := by decide +kernel
theorem dX4_countLess_22 : decode cX4_countLess 22 = .ok (.iinc 2 1, 3) := by decide +kernel
theorem dX4_countLess_25 : decode cX4_countLess 25 = .ok (.goto (-23), 3) := by decide +kernel
theorem dX4_countLess_28 : decode cX4_countLess 28 = .ok (.iload_n 2, 1) := by decide +kernel
theorem dX4_countLess_29 : decode cX4_countLess 29 = .ok (.ireturn, 1) := by decide +kernel
set_option maxRecDepth 20000 in
theorem ggX4_countNotGreater_X4_rowAt : GoodIn wsX4_countNotGreater wsX4_rowAt := goodIn_r _ [6, 1, 7, 8, 20, 21, 22, 23] (by decide +kernel) (by decide +kernel)
set_option maxRecDepth 20000 in
theorem gX4_countNotGreater_X4_rowAt : GoodIn wsX4_countNotGreater (wsV RX4 32 RX4 yX4_rowAt wsX4_rowAt) := goodIn_app (goodIn_of _ (by decide +kernel)) ggX4_countNotGreater_X4_rowAt
set_option maxRecDepth 20000 in
theorem ggX4_countNotGreater_X2_compareWith : GoodIn wsX4_countNotGreater wsX2_compareWith := goodIn_r _ [13, 14, 15, 16, 17, 18, 12, 19, 24, 25] (by decide +kernel) (by decide +kernel)
set_option maxRecDepth 20000 in
theorem gX4_countNotGreater_X2_compareWith : GoodIn wsX4_countNotGreater (wsV RX4 36 RX2 yX2_compareWith wsX2_compareWith) := goodIn_app (goodIn_of _ (by decide +kernel)) ggX4_countNotGreater_X2_compareWith
theorem dX4_countNotGreater_0 : decode cX4_countNotGreater 0 = .ok (.iconst 0, 1) := by decide +kernel
theorem dX4_countNotGreater_1 : decode cX4_countNotGreater 1 = .ok (.istore_n 2, 1) := by decide +kernel
theorem dX4_countNotGreater_2 : decode cX4_countNotGreater 2 = .ok (.iload_n 2, 1) := by decide +kernel
theorem dX4_countNotGreater_3 : decode cX4_countNotGreater 3 = .ok (.aload_n 0, 1) := by decide +kernel
theorem dX4_countNotGreater_4 : decode cX4_countNotGreater 4 = .ok (.getfield 28, 3) := by decide +kernel
theorem dX4_countNotGreater_7 : decode cX4_countNotGreater 7 = .ok (.if_icmp .ge 21, 3) := by decide +kernel
theorem dX4_countNotGreater_10 : decode cX4_countNotGreater 10 = .ok (.aload_n 0, 1) := by decide +kernel
theorem dX4_countNotGreater_11 : decode cX4_countNotGreater 11 = .ok (.iload_n 2, 1) := by decide +kernel
theorem dX4_countNotGreater_12 : decode cX4_countNotGreater 12 = .ok (.invokevirtual 32, 3) := by decide +kernel
theorem dX4_countNotGreater_15 : decode cX4_countNotGreater 15 = .ok (.aload_n 1, 1) := by decide +kernel
theorem dX4_countNotGreater_16 : decode cX4_countNotGreater 16 = .ok (.invokevirtual 36, 3) := by decide +kernel
theorem dX4_countNotGreater_19 : decode cX4_countNotGreater 19 = .ok (.ifCond .gt 9, 3) := by decide +kernel
theorem dX4_countNotGreater_22 : decode cX4_countNotGreater 22 = .ok (.iinc 2 1, 3) := by decide +kernel
theorem dX4_countNotGreater_25 : decode cX4_countNotGreater 25 = .ok (.goto (-23), 3) := by decide +kernel
theorem dX4_countNotGreater_28 : decode cX4_countNotGreater 28 = .ok (.iload_n 2, 1) := by decide +kernel
theorem dX4_countNotGreater_29 : decode cX4_countNotGreater 29 = .ok (.ireturn, 1) := by decide +kernel
set_option maxRecDepth 20000 in
theorem ggX4_rankOf_X4_countLess : GoodIn wsX4_rankOf wsX4_countLess := goodIn_r _ [6, 1, 7, 8, 9, 5, 10, 11, 12, 13, 14, 15, 16, 17, 18, 19, 20, 21, 22, 23, 24, 25, 26, 27, 28, 29] (by decide +kernel) (by decide +kernel)
set_option maxRecDepth 20000 in
theorem gX4_rankOf_X4_countLess : GoodIn wsX4_rankOf (wsV RX4 40 RX4 yX4_countLess wsX4_countLess) := goodIn_app (goodIn_of _ (by decide +kernel)) ggX4_rankOf_X4_countLess
set_option maxRecDepth 20000 in
theorem ggX4_rankOf_X4_rowAt : GoodIn wsX4_rankOf wsX4_rowAt := goodIn_r _ [10, 1, 11, 12, 24, 25, 26, 27] (by decide +kernel) (by decide +kernel)
set_option maxRecDepth 20000 in
theorem gX4_rankOf_X4_rowAt : GoodIn wsX4_rankOf (wsV RX4 32 RX4 yX4_rowAt wsX4_rowAt) := goodIn_app (goodIn_of _ (by decide +kernel)) ggX4_rankOf_X4_rowAt
set_option maxRecDepth 20000 in
theorem ggX4_rankOf_X2_compareWith : GoodIn wsX4_rankOf wsX2_compareWith := goodIn_r _ [17, 18, 19, 20, 21, 22, 16, 23, 28, 29] (by decide +kernel) (by decide +kernel)
set_option maxRecDepth 20000 in
theorem gX4_rankOf_X2_compareWith : GoodIn wsX4_rankOf (wsV RX4 36 RX2 yX2_compareWith wsX2_compareWith) := goodIn_app (goodIn_of _ (by decide +kernel)) ggX4_rankOf_X2_compareWith
theorem dX4_rankOf_0 : decode cX4_rankOf 0 = .ok (.aload_n 0, 1) := by decide +kernel
theorem dX4_rankOf_1 : decode cX4_rankOf 1 = .ok (.aload_n 1, 1) := by decide +kernel
theorem dX4_rankOf_2 : decode cX4_rankOf 2 = .ok (.invokevirtual 40, 3) := by decide +kernel
theorem dX4_rankOf_5 : decode cX4_rankOf 5 = .ok (.istore_n 2, 1) := by decide +kernel
theorem dX4_rankOf_6 : decode cX4_rankOf 6 = .ok (.iload_n 2, 1) := by decide +kernel
theorem dX4_rankOf_7 : decode cX4_rankOf 7 = .ok (.aload_n 0, 1) := by decide +kernel
theorem dX4_rankOf_8 : decode cX4_rankOf 8 = .ok (.getfield 28, 3) := by decide +kernel
theorem dX4_rankOf_11 : decode cX4_rankOf 11 = .ok (.if_icmp .ge 19, 3) := by decide +kernel
theorem dX4_rankOf_14 : decode cX4_rankOf 14 = .ok (.aload_n 0, 1) := by decide +kernel
theorem dX4_rankOf_15 : decode cX4_rankOf 15 = .ok (.iload_n 2, 1) := by decide +kernel
theorem dX4_rankOf_16 : decode cX4_rankOf 16 = .ok (.invokevirtual 32, 3) := by decide +kernel
theorem dX4_rankOf_19 : decode cX4_rankOf 19 = .ok (.aload_n 1, 1) := by decide +kernel
theorem dX4_rankOf_20 : decode cX4_rankOf 20 = .ok (.invokevirtual 36, 3) := by decide +kernel
theorem dX4_rankOf_23 : decode cX4_rankOf 23 = .ok (.ifCond .ne 7, 3) := by decide +kernel
theorem dX4_rankOf_26 : decode cX4_rankOf 26 = .ok (.iload_n 2, 1) := by decide +kernel
theorem dX4_rankOf_27 : decode cX4_rankOf 27 = .ok (.goto 4, 3) := by decide +kernel
theorem dX4_rankOf_30 : decode cX4_rankOf 30 = .ok (.iconst (-1), 1) := by decide +kernel
theorem dX4_rankOf_31 : decode cX4_rankOf 31 = .ok (.ireturn, 1) := by decide +kernel
set_option maxRecDepth 20000 in
theorem ggX4_insert_X4_countLess : GoodIn wsX4_insert wsX4_countLess := goodIn_r _ [8, 1, 9, 10, 11, 7, 12, 2, 13, 14, 15, 16, 17, 18, 19, 20, 21, 22, 23, 24, 45, 46, 47, 48, 49, 50] (by decide +kernel) (by decide +kernel)
set_option maxRecDepth 20000 in
theorem gX4_insert_X4_countLess : GoodIn wsX4_insert (wsV RX4 40 RX4 yX4_countLess wsX4_countLess) := goodIn_app (goodIn_of _ (by decide +kernel)) ggX4_insert_X4_countLess
set_option maxRecDepth 20000 in
theorem ggX4_insert_X2_become : GoodIn wsX4_insert wsX2_become := goodIn_r _ [28, 19, 29, 30, 31, 17, 32, 33, 34, 35, 36, 37, 38, 39, 40, 20, 41, 42, 43, 44, 49, 50] (by decide +kernel) (by decide +kernel)
set_option maxRecDepth 20000 in
theorem gX4_insert_X2_become : GoodIn wsX4_insert (wsV RX4 43 RX2 yX2_become wsX2_become) := goodIn_app (goodIn_of _ (by decide +kernel)) ggX4_insert_X2_become
theorem dX4_insert_0 : decode cX4_insert 0 = .ok (.aload_n 0, 1) := by decide +kernel
theorem dX4_insert_1 : decode cX4_insert 1 = .ok (.getfield 28, 3) := by decide +kernel
theorem dX4_insert_4 : decode cX4_insert 4 = .ok (.aload_n 0, 1) := by decide +kernel
theorem dX4_insert_5 : decode cX4_insert 5 = .ok (.getfield 11, 3) := by decide +kernel
theorem dX4_insert_8 : decode cX4_insert 8 = .ok (.arraylength, 1) := by decide +kernel
theorem dX4_insert_9 : decode cX4_insert 9 = .ok (.if_icmp .lt 4, 3) := by decide +kernel
theorem dX4_insert_12 : decode cX4_insert 12 = .ok (.return_, 1) := by decide +kernel
theorem dX4_insert_13 : decode cX4_insert 13 = .ok (.aload_n 0, 1) := by decide +kernel
theorem dX4_insert_14 : decode cX4_insert 14 = .ok (.aload_n 1, 1) := by decide +kernel
theorem dX4_insert_15 : decode cX4_insert 15 = .ok (.invokevirtual 40, 3) := by decide +kernel
theorem dX4_insert_18 : decode cX4_insert 18 = .ok (.istore_n 3, 1) := by decide +kernel
theorem dX4_insert_19 : decode cX4_insert 19 = .ok (.aload_n 0, 1) := by decide +kernel
theorem dX4_insert_20 : decode cX4_insert 20 = .ok (.getfield 11, 3) := by decide +kernel
theorem dX4_insert_23 : decode cX4_insert 23 = .ok (.aload_n 0, 1) := by decide +kernel
theorem dX4_insert_24 : decode cX4_insert 24 = .ok (.getfield 28, 3) := by decide +kernel
theorem dX4_insert_27 : decode cX4_insert 27 = .ok (.aaload, 1) := by decide +kernel
theorem dX4_insert_28 : decode cX4_insert 28 = .ok (.astore 4, 2) := by decide +kernel
theorem dX4_insert_30 : decode cX4_insert 30 = .ok (.aload_n 0, 1) := by decide +kernel
theorem dX4_insert_31 : decode cX4_insert 31 = .ok (.getfield 28, 3) := by decide +kernel
theorem dX4_insert_34 : decode cX4_insert 34 = .ok (.istore 5, 2) := by decide +kernel
theorem dX4_insert_36 : decode cX4_insert 36 = .ok (.iload 5, 2) := by decide +kernel
theorem dX4_insert_38 : decode cX4_insert 38 = .ok (.iload_n 3, 1) := by decide +kernel
theorem dX4_insert_39 : decode cX4_insert 39 = .ok (.if_icmp .le 41, 3) := by decide +kernel
theorem dX4_insert_42 : decode cX4_insert 42 = .ok (.aload_n 0, 1) := by decide +kernel
theorem dX4_insert_43 : decode cX4_insert 43 = .ok (.getfield 11, 3) := by decide +kernel
theorem dX4_insert_46 : decode cX4_insert 46 = .ok (.iload 5, 2) := by decide +kernel
theorem dX4_insert_48 : decode cX4_insert 48 = .ok (.aload_n 0, 1) := by decide +kernel
theorem dX4_insert_49 : decode cX4_insert 49 = .ok (.getfield 11, 3) := by decide +kernel
theorem dX4_insert_52 : decode cX4_insert 52 = .ok (.iload 5, 2) := by decide +kernel
theorem dX4_insert_54 : decode cX4_insert 54 = .ok (.iconst 1, 1) := by decide +kernel
theorem dX4_insert_55 : decode cX4_insert 55 = .ok (.isub, 1) := by decide +kernel
theorem dX4_insert_56 : decode cX4_insert 56 = .ok (.aaload, 1) := by decide +kernel
theorem dX4_insert_57 : decode cX4_insert 57 = .ok (.aastore, 1) := by decide +kernel
theorem dX4_insert_58 : decode cX4_insert 58 = .ok (.aload_n 0, 1) := by decide +kernel
theorem dX4_insert_59 : decode cX4_insert 59 = .ok (.getfield 20, 3) := by decide +kernel
theorem dX4_insert_62 : decode cX4_insert 62 = .ok (.iload 5, 2) := by decide +kernel
theorem dX4_insert_64 : decode cX4_insert 64 = .ok (.aload_n 0, 1) := by decide +kernel
theorem dX4_insert_65 : decode cX4_insert 65 = .ok (.getfield 20, 3) := by decide +kernel
theorem dX4_insert_68 : decode cX4_insert 68 = .ok (.iload 5, 2) := by decide +kernel
theorem dX4_insert_70 : decode cX4_insert 70 = .ok (.iconst 1, 1) := by decide +kernel
theorem dX4_insert_71 : decode cX4_insert 71 = .ok (.isub, 1) := by decide +kernel
theorem dX4_insert_72 : decode cX4_insert 72 = .ok (.iaload, 1) := by decide +kernel
theorem dX4_insert_73 : decode cX4_insert 73 = .ok (.iastore, 1) := by decide +kernel
theorem dX4_insert_74 : decode cX4_insert 74 = .ok (.iinc 5 (-1), 3) := by decide +kernel
theorem dX4_insert_77 : decode cX4_insert 77 = .ok (.goto (-41), 3) := by decide +kernel
theorem dX4_insert_80 : decode cX4_insert 80 = .ok (.aload 4, 2) := by decide +kernel
theorem dX4_insert_82 : decode cX4_insert 82 = .ok (.aload_n 1, 1) := by decide +kernel
theorem dX4_insert_83 : decode cX4_insert 83 = .ok (.invokevirtual 43, 3) := by decide +kernel
theorem dX4_insert_86 : decode cX4_insert 86 = .ok (.aload_n 0, 1) := by decide +kernel
theorem dX4_insert_87 : decode cX4_insert 87 = .ok (.getfield 11, 3) := by decide +kernel
theorem dX4_insert_90 : decode cX4_insert 90 = .ok (.iload_n 3, 1) := by decide +kernel
theorem dX4_insert_91 : decode cX4_insert 91 = .ok (.aload 4, 2) := by decide +kernel
theorem dX4_insert_93 : decode cX4_insert 93 = .ok (.aastore, 1) := by decide +kernel
theorem dX4_insert_94 : decode cX4_insert 94 = .ok (.aload_n 0, 1) := by decide +kernel
theorem dX4_insert_95 : decode cX4_insert 95 = .ok (.getfield 20, 3) := by decide +kernel
theorem dX4_insert_98 : decode cX4_insert 98 = .ok (.iload_n 3, 1) := by decide +kernel
theorem dX4_insert_99 : decode cX4_insert 99 = .ok (.iload_n 2, 1) := by decide +kernel
theorem dX4_insert_100 : decode cX4_insert 100 = .ok (.iastore, 1) := by decide +kernel
theorem dX4_insert_101 : decode cX4_insert 101 = .ok (.aload_n 0, 1) := by decide +kernel
theorem dX4_insert_102 : decode cX4_insert 102 = .ok (.dup, 1) := by decide +kernel
theorem dX4_insert_103 : decode cX4_insert 103 = .ok (.getfield 28, 3) := by decide +kernel
theorem dX4_insert_106 : decode cX4_insert 106 = .ok (.iconst 1, 1) := by decide +kernel
theorem dX4_insert_107 : decode cX4_insert 107 = .ok (.iadd, 1) := by decide +kernel
theorem dX4_insert_108 : decode cX4_insert 108 = .ok (.putfield 28, 3) := by decide +kernel
theorem dX4_insert_111 : decode cX4_insert 111 = .ok (.return_, 1) := by decide +kernel
theorem dX4_remove_0 : decode cX4_remove 0 = .ok (.iload_n 1, 1) := by decide +kernel
theorem dX4_remove_1 : decode cX4_remove 1 = .ok (.ifCond .lt 11, 3) := by decide +kernel
theorem dX4_remove_4 : decode cX4_remove 4 = .ok (.iload_n 1, 1) := by decide +kernel
theorem dX4_remove_5 : decode cX4_remove 5 = .ok (.aload_n 0, 1) := by decide +kernel
theorem dX4_remove_6 : decode cX4_remove 6 = .ok (.getfield 28, 3) := by decide +kernel
theorem dX4_remove_9 : decode cX4_remove 9 = .ok (.if_icmp .lt 4, 3) := by decide +kernel
theorem dX4_remove_12 : decode cX4_remove 12 = .ok (.return_, 1) := by decide +kernel
theorem dX4_remove_13 : decode cX4_remove 13 = .ok (.aload_n 0, 1) := by decide +kernel
theorem dX4_remove_14 : decode cX4_remove 14 = .ok (.getfield 11, 3) := by decide +kernel
theorem dX4_remove_17 : decode cX4_remove 17 = .ok (.iload_n 1, 1) := by decide +kernel
theorem dX4_remove_18 : decode cX4_remove 18 = .ok (.aaload, 1) := by decide +kernel
theorem dX4_remove_19 : decode cX4_remove 19 = .ok (.astore_n 2, 1) := by decide +kernel
theorem dX4_remove_20 : decode cX4_remove 20 = .ok (.iload_n 1, 1) := by decide +kernel
theorem dX4_remove_21 : decode cX4_remove 21 = .ok (.iconst 1, 1) := by decide +kernel
theorem dX4_remove_22 : decode cX4_remove 22 = .ok (.iadd, 1) := by decide +kernel
theorem dX4_remove_23 : decode cX4_remove 23 = .ok (.istore_n 3, 1) := by decide +kernel
theorem dX4_remove_24 : decode cX4_remove 24 = .ok (.iload_n 3, 1) := by decide +kernel
theorem dX4_remove_25 : decode cX4_remove 25 = .ok (.aload_n 0, 1) := by decide +kernel
theorem dX4_remove_26 : decode cX4_remove 26 = .ok (.getfield 28, 3) := by decide +kernel
theorem dX4_remove_29 : decode cX4_remove 29 = .ok (.if_icmp .ge 37, 3) := by decide +kernel
theorem dX4_remove_32 : decode cX4_remove 32 = .ok (.aload_n 0, 1) := by decide +kernel
theorem dX4_remove_33 : decode cX4_remove 33 = .ok (.getfield 11, 3) := by decide +kernel
theorem dX4_remove_36 : decode cX4_remove 36 = .ok (.iload_n 3, 1) := by decide +kernel
theorem dX4_remove_37 : decode cX4_remove 37 = .ok (.iconst 1, 1) := by decide +kernel
theorem dX4_remove_38 : decode cX4_remove 38 = .ok (.isub, 1) := by decide +kernel
theorem dX4_remove_39 : decode cX4_remove 39 = .ok (.aload_n 0, 1) := by decide +kernel
theorem dX4_remove_40 : decode cX4_remove 40 = .ok (.getfield 11, 3) := by decide +kernel
theorem dX4_remove_43 : decode cX4_remove 43 = .ok (.iload_n 3, 1) := by decide +kernel
theorem dX4_remove_44 : decode cX4_remove 44 = .ok (.aaload, 1) := by decide +kernel
theorem dX4_remove_45 : decode cX4_remove 45 = .ok (.aastore, 1) := by decide +kernel
theorem dX4_remove_46 : decode cX4_remove 46 = .ok (.aload_n 0, 1) := by decide +kernel
theorem dX4_remove_47 : decode cX4_remove 47 = .ok (.getfield 20, 3) := by decide +kernel
theorem dX4_remove_50 : decode cX4_remove 50 = .ok (.iload_n 3, 1) := by decide +kernel
theorem dX4_remove_51 : decode cX4_remove 51 = .ok (.iconst 1, 1) := by decide +kernel
theorem dX4_remove_52 : decode cX4_remove 52 = .ok (.isub, 1) := by decide +kernel
theorem dX4_remove_53 : decode cX4_remove 53 = .ok (.aload_n 0, 1) := by decide +kernel
theorem dX4_remove_54 : decode cX4_remove 54 = .ok (.getfield 20, 3) := by decide +kernel
theorem dX4_remove_57 : decode cX4_remove 57 = .ok (.iload_n 3, 1) := by decide +kernel
theorem dX4_remove_58 : decode cX4_remove 58 = .ok (.iaload, 1) := by decide +kernel
theorem dX4_remove_59 : decode cX4_remove 59 = .ok (.iastore, 1) := by decide +kernel
theorem dX4_remove_60 : decode cX4_remove 60 = .ok (.iinc 3 1, 3) := by decide +kernel
theorem dX4_remove_63 : decode cX4_remove 63 = .ok (.goto (-39), 3) := by decide +kernel
theorem dX4_remove_66 : decode cX4_remove 66 = .ok (.aload_n 0, 1) := by decide +kernel
theorem dX4_remove_67 : decode cX4_remove 67 = .ok (.dup, 1) := by decide +kernel
theorem dX4_remove_68 : decode cX4_remove 68 = .ok (.getfield 28, 3) := by decide +kernel
theorem dX4_remove_71 : decode cX4_remove 71 = .ok (.iconst 1, 1) := by decide +kernel
theorem dX4_remove_72 : decode cX4_remove 72 = .ok (.isub, 1) := by decide +kernel
theorem dX4_remove_73 : decode cX4_remove 73 = .ok (.putfield 28, 3) := by decide +kernel
theorem dX4_remove_76 : decode cX4_remove 76 = .ok (.aload_n 0, 1) := by decide +kernel
theorem dX4_remove_77 : decode cX4_remove 77 = .ok (.getfield 11, 3) := by decide +kernel
theorem dX4_remove_80 : decode cX4_remove 80 = .ok (.aload_n 0, 1) := by decide +kernel
theorem dX4_remove_81 : decode cX4_remove 81 = .ok (.getfield 28, 3) := by decide +kernel
theorem dX4_remove_84 : decode cX4_remove 84 = .ok (.aload_n 2, 1) := by decide +kernel
theorem dX4_remove_85 : decode cX4_remove 85 = .ok (.aastore, 1) := by decide +kernel
theorem dX4_remove_86 : decode cX4_remove 86 = .ok (.return_, 1) := by decide +kernel
set_option maxRecDepth 20000 in
theorem ggX4_countBegun_X4_rowAt : GoodIn wsX4_countBegun wsX4_rowAt := goodIn_r _ [6, 1, 7, 8, 20, 21, 22, 23] (by decide +kernel) (by decide +kernel)
set_option maxRecDepth 20000 in
theorem gX4_countBegun_X4_rowAt : GoodIn wsX4_countBegun (wsV RX4 32 RX4 yX4_rowAt wsX4_rowAt) := goodIn_app (goodIn_of _ (by decide +kernel)) ggX4_countBegun_X4_rowAt
set_option maxRecDepth 20000 in
theorem ggX4_countBegun_X2_beginsWith : GoodIn wsX4_countBegun wsX2_beginsWith := goodIn_r _ [13, 14, 15, 16, 12, 17, 18, 19, 24, 25] (by decide +kernel) (by decide +kernel)
set_option maxRecDepth 20000 in
theorem gX4_countBegun_X2_beginsWith : GoodIn wsX4_countBegun (wsV RX4 47 RX2 yX2_beginsWith wsX2_beginsWith) := goodIn_app (goodIn_of _ (by decide +kernel)) ggX4_countBegun_X2_beginsWith
theorem dX4_countBegun_0 : decode cX4_countBegun 0 = .ok (.iconst 0, 1) := by decide +kernel
theorem dX4_countBegun_1 : decode cX4_countBegun 1 = .ok (.istore_n 2, 1) := by decide +kernel
theorem dX4_countBegun_2 : decode cX4_countBegun 2 = .ok (.iconst 0, 1) := by decide +kernel
theorem dX4_countBegun_3 : decode cX4_countBegun 3 = .ok (.istore_n 3, 1) := by decide +kernel
theorem dX4_countBegun_4 : decode cX4_countBegun 4 = .ok (.iload_n 3, 1) := by decide +kernel
theorem dX4_countBegun_5 : decode cX4_countBegun 5 = .ok (.aload_n 0, 1) := by decide +kernel
theorem dX4_countBegun_6 : decode cX4_countBegun 6 = .ok (.getfield 28, 3) := by decide +kernel
theorem dX4_countBegun_9 : decode cX4_countBegun 9 = .ok (.if_icmp .ge 24, 3) := by decide +kernel
theorem dX4_countBegun_12 : decode cX4_countBegun 12 = .ok (.aload_n 0, 1) := by decide +kernel
theorem dX4_countBegun_13 : decode cX4_countBegun 13 = .ok (.iload_n 3, 1) := by decide +kernel
theorem dX4_countBegun_14 : decode cX4_countBegun 14 = .ok (.invokevirtual 32, 3) := by decide +kernel
theorem dX4_countBegun_17 : decode cX4_countBegun 17 = .ok (.aload_n 1, 1) := by decide +kernel
theorem dX4_countBegun_18 : decode cX4_countBegun 18 = .ok (.invokevirtual 47, 3) := by decide +kernel
theorem dX4_countBegun_21 : decode cX4_countBegun 21 = .ok (.ifCond .eq 6, 3) := by decide +kernel
theorem dX4_countBegun_24 : decode cX4_countBegun 24 = .ok (.iinc 2 1, 3) := by decide +kernel
theorem dX4_countBegun_27 : decode cX4_countBegun 27 = .ok (.iinc 3 1, 3) := by decide +kernel
theorem dX4_countBegun_30 : decode cX4_countBegun 30 = .ok (.goto (-26), 3) := by decide +kernel
theorem dX4_countBegun_33 : decode cX4_countBegun 33 = .ok (.iload_n 2, 1) := by decide +kernel
theorem dX4_countBegun_34 : decode cX4_countBegun 34 = .ok (.ireturn, 1) := by decide +kernel
set_option maxRecDepth 20000 in
theorem ggX4_rankBegun_X4_rowAt : GoodIn wsX4_rankBegun wsX4_rowAt := goodIn_r _ [6, 1, 7, 8, 20, 21, 22, 23] (by decide +kernel) (by decide +kernel)
set_option maxRecDepth 20000 in
theorem gX4_rankBegun_X4_rowAt : GoodIn wsX4_rankBegun (wsV RX4 32 RX4 yX4_rowAt wsX4_rowAt) := goodIn_app (goodIn_of _ (by decide +kernel)) ggX4_rankBegun_X4_rowAt
set_option maxRecDepth 20000 in
theorem ggX4_rankBegun_X2_beginsWith : GoodIn wsX4_rankBegun wsX2_beginsWith := goodIn_r _ [13, 14, 15, 16, 12, 17, 18, 19, 24, 25] (by decide +kernel) (by decide +kernel)
set_option maxRecDepth 20000 in
theorem gX4_rankBegun_X2_beginsWith : GoodIn wsX4_rankBegun (wsV RX4 47 RX2 yX2_beginsWith wsX2_beginsWith) := goodIn_app (goodIn_of _ (by decide +kernel)) ggX4_rankBegun_X2_beginsWith
theorem dX4_rankBegun_0 : decode cX4_rankBegun 0 = .ok (.iload_n 2, 1) := by decide +kernel
theorem dX4_rankBegun_1 : decode cX4_rankBegun 1 = .ok (.istore_n 3, 1) := by decide +kernel
theorem dX4_rankBegun_2 : decode cX4_rankBegun 2 = .ok (.iconst 0, 1) := by decide +kernel
theorem dX4_rankBegun_3 : decode cX4_rankBegun 3 = .ok (.istore 4, 2) := by decide +kernel
theorem dX4_rankBegun_5 : decode cX4_rankBegun 5 = .ok (.iload 4, 2) := by decide +kernel
theorem dX4_rankBegun_7 : decode cX4_rankBegun 7 = .ok (.aload_n 0, 1) := by decide +kernel
theorem dX4_rankBegun_8 : decode cX4_rankBegun 8 = .ok (.getfield 28, 3) := by decide +kernel
theorem dX4_rankBegun_11 : decode cX4_rankBegun 11 = .ok (.if_icmp .ge 32, 3) := by decide +kernel
theorem dX4_rankBegun_14 : decode cX4_rankBegun 14 = .ok (.aload_n 0, 1) := by decide +kernel
theorem dX4_rankBegun_15 : decode cX4_rankBegun 15 = .ok (.iload 4, 2) := by decide +kernel
theorem dX4_rankBegun_17 : decode cX4_rankBegun 17 = .ok (.invokevirtual 32, 3) := by decide +kernel
theorem dX4_rankBegun_20 : decode cX4_rankBegun 20 = .ok (.aload_n 1, 1) := by decide +kernel
theorem dX4_rankBegun_21 : decode cX4_rankBegun 21 = .ok (.invokevirtual 47, 3) := by decide +kernel
theorem dX4_rankBegun_24 : decode cX4_rankBegun 24 = .ok (.ifCond .eq 13, 3) := by decide +kernel
theorem dX4_rankBegun_27 : decode cX4_rankBegun 27 = .ok (.iload_n 3, 1) := by decide +kernel
theorem dX4_rankBegun_28 : decode cX4_rankBegun 28 = .ok (.ifCond .ne 6, 3) := by decide +kernel
theorem dX4_rankBegun_31 : decode cX4_rankBegun 31 = .ok (.iload 4, 2) := by decide +kernel
theorem dX4_rankBegun_33 : decode cX4_rankBegun 33 = .ok (.ireturn, 1) := by decide +kernel
theorem dX4_rankBegun_34 : decode cX4_rankBegun 34 = .ok (.iinc 3 (-1), 3) := by decide +kernel
theorem dX4_rankBegun_37 : decode cX4_rankBegun 37 = .ok (.iinc 4 1, 3) := by decide +kernel
theorem dX4_rankBegun_40 : decode cX4_rankBegun 40 = .ok (.goto (-35), 3) := by decide +kernel
theorem dX4_rankBegun_43 : decode cX4_rankBegun 43 = .ok (.iconst (-1), 1) := by decide +kernel
theorem dX4_rankBegun_44 : decode cX4_rankBegun 44 = .ok (.ireturn, 1) := by decide +kernel
set_option maxRecDepth 20000 in
theorem ggX4_sumBegun_X4_rowAt : GoodIn wsX4_sumBegun wsX4_rowAt := goodIn_r _ [6, 1, 7, 8, 25, 26, 27, 28] (by decide +kernel) (by decide +kernel)
set_option maxRecDepth 20000 in
theorem gX4_sumBegun_X4_rowAt : GoodIn wsX4_sumBegun (wsV RX4 32 RX4 yX4_rowAt wsX4_rowAt) := goodIn_app (goodIn_of _ (by decide +kernel)) ggX4_sumBegun_X4_rowAt
set_option maxRecDepth 20000 in
theorem ggX4_sumBegun_X2_beginsWith : GoodIn wsX4_sumBegun wsX2_beginsWith := goodIn_r _ [13, 14, 15, 16, 12, 17, 18, 19, 29, 30] (by decide +kernel) (by decide +kernel)
set_option maxRecDepth 20000 in
theorem gX4_sumBegun_X2_beginsWith : GoodIn wsX4_sumBegun (wsV RX4 47 RX2 yX2_beginsWith wsX2_beginsWith) := goodIn_app (goodIn_of _ (by decide +kernel)) ggX4_sumBegun_X2_beginsWith
set_option maxRecDepth 20000 in
theorem ggX4_sumBegun_X4_numberAt : GoodIn wsX4_sumBegun wsX4_numberAt := goodIn_r _ [23, 1, 24, 25, 26, 27, 28] (by decide +kernel) (by decide +kernel)
set_option maxRecDepth 20000 in
theorem gX4_sumBegun_X4_numberAt : GoodIn wsX4_sumBegun (wsV RX4 51 RX4 yX4_numberAt wsX4_numberAt) := goodIn_app (goodIn_of _ (by decide +kernel)) ggX4_sumBegun_X4_numberAt
theorem dX4_sumBegun_0 : decode cX4_sumBegun 0 = .ok (.iconst 0, 1) := by decide +kernel
theorem dX4_sumBegun_1 : decode cX4_sumBegun 1 = .ok (.istore_n 2, 1) := by decide +kernel
theorem dX4_sumBegun_2 : decode cX4_sumBegun 2 = .ok (.iconst 0, 1) := by decide +kernel
theorem dX4_sumBegun_3 : decode cX4_sumBegun 3 = .ok (.istore_n 3, 1) := by decide +kernel
theorem dX4_sumBegun_4 : decode cX4_sumBegun 4 = .ok (.iload_n 3, 1) := by decide +kernel
theorem dX4_sumBegun_5 : decode cX4_sumBegun 5 = .ok (.aload_n 0, 1) := by decide +kernel
theorem dX4_sumBegun_6 : decode cX4_sumBegun 6 = .ok (.getfield 28, 3) := by decide +kernel
theorem dX4_sumBegun_9 : decode cX4_sumBegun 9 = .ok (.if_icmp .ge 29, 3) := by decide +kernel
theorem dX4_sumBegun_12 : decode cX4_sumBegun 12 = .ok (.aload_n 0, 1) := by decide +kernel
theorem dX4_sumBegun_13 : decode cX4_sumBegun 13 = .ok (.iload_n 3, 1) := by decide +kernel
theorem dX4_sumBegun_14 : decode cX4_sumBegun 14 = .ok (.invokevirtual 32, 3) := by decide +kernel
theorem dX4_sumBegun_17 : decode cX4_sumBegun 17 = .ok (.aload_n 1, 1) := by decide +kernel
theorem dX4_sumBegun_18 : decode cX4_sumBegun 18 = .ok (.invokevirtual 47, 3) := by decide +kernel
theorem dX4_sumBegun_21 : decode cX4_sumBegun 21 = .ok (.ifCond .eq 11, 3) := by decide +kernel
theorem dX4_sumBegun_24 : decode cX4_sumBegun 24 = .ok (.iload_n 2, 1) := by decide +kernel
theorem dX4_sumBegun_25 : decode cX4_sumBegun 25 = .ok (.aload_n 0, 1) := by decide +kernel
theorem dX4_sumBegun_26 : decode cX4_sumBegun 26 = .ok (.iload_n 3, 1) := by decide +kernel
theorem dX4_sumBegun_27 : decode cX4_sumBegun 27 = .ok (.invokevirtual 51, 3) := by decide +kernel
theorem dX4_sumBegun_30 : decode cX4_sumBegun 30 = .ok (.iadd, 1) := by decide +kernel
theorem dX4_sumBegun_31 : decode cX4_sumBegun 31 = .ok (.istore_n 2, 1) := by decide +kernel
theorem dX4_sumBegun_32 : decode cX4_sumBegun 32 = .ok (.iinc 3 1, 3) := by decide +kernel
theorem dX4_sumBegun_35 : decode cX4_sumBegun 35 = .ok (.goto (-31), 3) := by decide +kernel
theorem dX4_sumBegun_38 : decode cX4_sumBegun 38 = .ok (.iload_n 2, 1) := by decide +kernel
theorem dX4_sumBegun_39 : decode cX4_sumBegun 39 = .ok (.ireturn, 1) := by decide +kernel
set_option maxRecDepth 20000 in
theorem ggX4_removeBegun_X4_rowAt : GoodIn wsX4_removeBegun wsX4_rowAt := goodIn_r _ [6, 1, 7, 8, 25, 26, 27, 28] (by decide +kernel) (by decide +kernel)
set_option maxRecDepth 20000 in
theorem gX4_removeBegun_X4_rowAt : GoodIn wsX4_removeBegun (wsV RX4 32 RX4 yX4_rowAt wsX4_rowAt) := goodIn_app (goodIn_of _ (by decide +kernel)) ggX4_removeBegun_X4_rowAt
set_option maxRecDepth 20000 in
theorem ggX4_removeBegun_X2_beginsWith : GoodIn wsX4_removeBegun wsX2_beginsWith := goodIn_r _ [13, 14, 15, 16, 12, 17, 18, 19, 29, 30] (by decide +kernel) (by decide +kernel)
set_option maxRecDepth 20000 in
theorem gX4_removeBegun_X2_beginsWith : GoodIn wsX4_removeBegun (wsV RX4 47 RX2 yX2_beginsWith wsX2_beginsWith) := goodIn_app (goodIn_of _ (by decide +kernel)) ggX4_removeBegun_X2_beginsWith
set_option maxRecDepth 20000 in
theorem ggX4_removeBegun_X4_remove : GoodIn wsX4_removeBegun wsX4_remove := goodIn_r _ [23, 1, 7, 24, 25, 26, 27, 28] (by decide +kernel) (by decide +kernel)
set_option maxRecDepth 20000 in
theorem gX4_removeBegun_X4_remove : GoodIn wsX4_removeBegun (wsV RX4 55 RX4 yX4_remove wsX4_remove) := goodIn_app (goodIn_of _ (by decide +kernel)) ggX4_removeBegun_X4_remove
theorem dX4_removeBegun_0 : decode cX4_removeBegun 0 = .ok (.iconst 0, 1) := by decide +kernel
theorem dX4_removeBegun_1 : decode cX4_removeBegun 1 = .ok (.istore_n 2, 1) := by decide +kernel
theorem dX4_removeBegun_2 : decode cX4_removeBegun 2 = .ok (.aload_n 0, 1) := by decide +kernel
theorem dX4_removeBegun_3 : decode cX4_removeBegun 3 = .ok (.getfield 28, 3) := by decide +kernel
theorem dX4_removeBegun_6 : decode cX4_removeBegun 6 = .ok (.iconst 1, 1) := by decide +kernel
theorem dX4_removeBegun_7 : decode cX4_removeBegun 7 = .ok (.isub, 1) := by decide +kernel
theorem dX4_removeBegun_8 : decode cX4_removeBegun 8 = .ok (.istore_n 3, 1) := by decide +kernel
theorem dX4_removeBegun_9 : decode cX4_removeBegun 9 = .ok (.iload_n 3, 1) := by decide +kernel
theorem dX4_removeBegun_10 : decode cX4_removeBegun 10 = .ok (.ifCond .lt 29, 3) := by decide +kernel
theorem dX4_removeBegun_13 : decode cX4_removeBegun 13 = .ok (.aload_n 0, 1) := by decide +kernel
theorem dX4_removeBegun_14 : decode cX4_removeBegun 14 = .ok (.iload_n 3, 1) := by decide +kernel
theorem dX4_removeBegun_15 : decode cX4_removeBegun 15 = .ok (.invokevirtual 32, 3) := by decide +kernel
theorem dX4_removeBegun_18 : decode cX4_removeBegun 18 = .ok (.aload_n 1, 1) := by decide +kernel
theorem dX4_removeBegun_19 : decode cX4_removeBegun 19 = .ok (.invokevirtual 47, 3) := by decide +kernel
theorem dX4_removeBegun_22 : decode cX4_removeBegun 22 = .ok (.ifCond .eq 11, 3) := by decide +kernel
theorem dX4_removeBegun_25 : decode cX4_removeBegun 25 = .ok (.aload_n 0, 1) := by decide +kernel
theorem dX4_removeBegun_26 : decode cX4_removeBegun 26 = .ok (.iload_n 3, 1) := by decide +kernel
theorem dX4_removeBegun_27 : decode cX4_removeBegun 27 = .ok (.invokevirtual 55, 3) := by decide +kernel
theorem dX4_removeBegun_30 : decode cX4_removeBegun 30 = .ok (.iinc 2 1, 3) := by decide +kernel
theorem dX4_removeBegun_33 : decode cX4_removeBegun 33 = .ok (.iinc 3 (-1), 3) := by decide +kernel
theorem dX4_removeBegun_36 : decode cX4_removeBegun 36 = .ok (.goto (-27), 3) := by decide +kernel
theorem dX4_removeBegun_39 : decode cX4_removeBegun 39 = .ok (.iload_n 2, 1) := by decide +kernel
theorem dX4_removeBegun_40 : decode cX4_removeBegun 40 = .ok (.ireturn, 1) := by decide +kernel
set_option maxRecDepth 20000 in
theorem ggX4_longestAt_X4_rowAt : GoodIn wsX4_longestAt wsX4_rowAt := goodIn_r _ [10, 1, 11, 12, 24, 25, 26, 27] (by decide +kernel) (by decide +kernel)
set_option maxRecDepth 20000 in
theorem gX4_longestAt_X4_rowAt : GoodIn wsX4_longestAt (wsV RX4 32 RX4 yX4_rowAt wsX4_rowAt) := goodIn_app (goodIn_of _ (by decide +kernel)) ggX4_longestAt_X4_rowAt
set_option maxRecDepth 20000 in
theorem ggX4_longestAt_X2_hasAt : GoodIn wsX4_longestAt wsX2_hasAt := goodIn_r _ [17, 18, 19, 28, 29] (by decide +kernel) (by decide +kernel)
set_option maxRecDepth 20000 in
theorem gX4_longestAt_X2_hasAt : GoodIn wsX4_longestAt (wsV RX4 58 RX2 yX2_hasAt wsX2_hasAt) := goodIn_app (goodIn_of _ (by decide +kernel)) ggX4_longestAt_X2_hasAt
set_option maxRecDepth 20000 in
theorem ggX4_longestAt_X2_size : GoodIn wsX4_longestAt wsX2_size := goodIn_r _ [23, 18, 28, 29] (by decide +kernel) (by decide +kernel)
set_option maxRecDepth 20000 in
theorem gX4_longestAt_X2_size : GoodIn wsX4_longestAt (wsV RX4 62 RX2 yX2_size wsX2_size) := goodIn_app (goodIn_of _ (by decide +kernel)) ggX4_longestAt_X2_size
theorem dX4_longestAt_0 : decode cX4_longestAt 0 = .ok (.iconst 0, 1) := by decide +kernel
theorem dX4_longestAt_1 : decode cX4_longestAt 1 = .ok (.istore_n 3, 1) := by decide +kernel
theorem dX4_longestAt_2 : decode cX4_longestAt 2 = .ok (.iconst 0, 1) := by decide +kernel
theorem dX4_longestAt_3 : decode cX4_longestAt 3 = .ok (.istore 4, 2) := by decide +kernel
theorem dX4_longestAt_5 : decode cX4_longestAt 5 = .ok (.iload 4, 2) := by decide +kernel
theorem dX4_longestAt_7 : decode cX4_longestAt 7 = .ok (.aload_n 0, 1) := by decide +kernel
theorem dX4_longestAt_8 : decode cX4_longestAt 8 = .ok (.getfield 28, 3) := by decide +kernel
theorem dX4_longestAt_11 : decode cX4_longestAt 11 = .ok (.if_icmp .ge 37, 3) := by decide +kernel
theorem dX4_longestAt_14 : decode cX4_longestAt 14 = .ok (.aload_n 1, 1) := by decide +kernel
theorem dX4_longestAt_15 : decode cX4_longestAt 15 = .ok (.iload_n 2, 1) := by decide +kernel
theorem dX4_longestAt_16 : decode cX4_longestAt 16 = .ok (.aload_n 0, 1) := by decide +kernel
theorem dX4_longestAt_17 : decode cX4_longestAt 17 = .ok (.iload 4, 2) := by decide +kernel
theorem dX4_longestAt_19 : decode cX4_longestAt 19 = .ok (.invokevirtual 32, 3) := by decide +kernel
theorem dX4_longestAt_22 : decode cX4_longestAt 22 = .ok (.invokevirtual 58, 3) := by decide +kernel
theorem dX4_longestAt_25 : decode cX4_longestAt 25 = .ok (.ifCond .eq 17, 3) := by decide +kernel
theorem dX4_longestAt_28 : decode cX4_longestAt 28 = .ok (.iload_n 3, 1) := by decide +kernel
theorem dX4_longestAt_29 : decode cX4_longestAt 29 = .ok (.aload_n 0, 1) := by decide +kernel
theorem dX4_longestAt_30 : decode cX4_longestAt 30 = .ok (.iload 4, 2) := by decide +kernel
theorem dX4_longestAt_32 : decode cX4_longestAt 32 = .ok (.invokevirtual 32, 3) := by decide +kernel
theorem dX4_longestAt_35 : decode cX4_longestAt 35 = .ok (.invokevirtual 62, 3) := by decide +kernel
theorem dX4_longestAt_38 : decode cX4_longestAt 38 = .ok (.invokestatic 66, 3) := by decide +kernel
theorem dX4_longestAt_41 : decode cX4_longestAt 41 = .ok (.istore_n 3, 1) := by decide +kernel
theorem dX4_longestAt_42 : decode cX4_longestAt 42 = .ok (.iinc 4 1, 3) := by decide +kernel
theorem dX4_longestAt_45 : decode cX4_longestAt 45 = .ok (.goto (-40), 3) := by decide +kernel
theorem dX4_longestAt_48 : decode cX4_longestAt 48 = .ok (.iload_n 3, 1) := by decide +kernel
theorem dX4_longestAt_49 : decode cX4_longestAt 49 = .ok (.ireturn, 1) := by decide +kernel
set_option maxRecDepth 20000 in
theorem ggX4_mostCommon_X4_rowAt : GoodIn wsX4_mostCommon wsX4_rowAt := goodIn_r _ [10, 1, 11, 12, 20, 21, 22, 23] (by decide +kernel) (by decide +kernel)
set_option maxRecDepth 20000 in
theorem gX4_mostCommon_X4_rowAt : GoodIn wsX4_mostCommon (wsV RX4 32 RX4 yX4_rowAt wsX4_rowAt) := goodIn_app (goodIn_of _ (by decide +kernel)) ggX4_mostCommon_X4_rowAt
set_option maxRecDepth 20000 in
theorem ggX4_mostCommon_X2_common : GoodIn wsX4_mostCommon wsX2_common := goodIn_r _ [17, 18, 19, 24, 25] (by decide +kernel) (by decide +kernel)
set_option maxRecDepth 20000 in
theorem gX4_mostCommon_X2_common : GoodIn wsX4_mostCommon (wsV RX4 72 RX2 yX2_common wsX2_common) := goodIn_app (goodIn_of _ (by decide +kernel)) ggX4_mostCommon_X2_common
theorem dX4_mostCommon_0 : decode cX4_mostCommon 0 = .ok (.iconst 0, 1) := by decide +kernel
theorem dX4_mostCommon_1 : decode cX4_mostCommon 1 = .ok (.istore_n 2, 1) := by decide +kernel
theorem dX4_mostCommon_2 : decode cX4_mostCommon 2 = .ok (.iconst 0, 1) := by decide +kernel
theorem dX4_mostCommon_3 : decode cX4_mostCommon 3 = .ok (.istore_n 3, 1) := by decide +kernel
theorem dX4_mostCommon_4 : decode cX4_mostCommon 4 = .ok (.iload_n 3, 1) := by decide +kernel
theorem dX4_mostCommon_5 : decode cX4_mostCommon 5 = .ok (.aload_n 0, 1) := by decide +kernel
theorem dX4_mostCommon_6 : decode cX4_mostCommon 6 = .ok (.getfield 28, 3) := by decide +kernel
theorem dX4_mostCommon_9 : decode cX4_mostCommon 9 = .ok (.if_icmp .ge 23, 3) := by decide +kernel
theorem dX4_mostCommon_12 : decode cX4_mostCommon 12 = .ok (.iload_n 2, 1) := by decide +kernel
theorem dX4_mostCommon_13 : decode cX4_mostCommon 13 = .ok (.aload_n 1, 1) := by decide +kernel
theorem dX4_mostCommon_14 : decode cX4_mostCommon 14 = .ok (.aload_n 0, 1) := by decide +kernel
theorem dX4_mostCommon_15 : decode cX4_mostCommon 15 = .ok (.iload_n 3, 1) := by decide +kernel
theorem dX4_mostCommon_16 : decode cX4_mostCommon 16 = .ok (.invokevirtual 32, 3) := by decide +kernel
theorem dX4_mostCommon_19 : decode cX4_mostCommon 19 = .ok (.invokevirtual 72, 3) := by decide +kernel
theorem dX4_mostCommon_22 : decode cX4_mostCommon 22 = .ok (.invokestatic 66, 3) := by decide +kernel
theorem dX4_mostCommon_25 : decode cX4_mostCommon 25 = .ok (.istore_n 2, 1) := by decide +kernel
theorem dX4_mostCommon_26 : decode cX4_mostCommon 26 = .ok (.iinc 3 1, 3) := by decide +kernel
theorem dX4_mostCommon_29 : decode cX4_mostCommon 29 = .ok (.goto (-25), 3) := by decide +kernel
theorem dX4_mostCommon_32 : decode cX4_mostCommon 32 = .ok (.iload_n 2, 1) := by decide +kernel
theorem dX4_mostCommon_33 : decode cX4_mostCommon 33 = .ok (.ireturn, 1) := by decide +kernel
set_option maxRecDepth 20000 in
theorem ggX4_mostCommonOfTwo_X4_rowAt : GoodIn wsX4_mostCommonOfTwo wsX4_rowAt := goodIn_r _ [10, 1, 11, 12, 20, 21, 22, 23] (by decide +kernel) (by decide +kernel)
set_option maxRecDepth 20000 in
theorem gX4_mostCommonOfTwo_X4_rowAt : GoodIn wsX4_mostCommonOfTwo (wsV RX4 32 RX4 yX4_rowAt wsX4_rowAt) := goodIn_app (goodIn_of _ (by decide +kernel)) ggX4_mostCommonOfTwo_X4_rowAt
set_option maxRecDepth 20000 in
theorem ggX4_mostCommonOfTwo_X2_common : GoodIn wsX4_mostCommonOfTwo wsX2_common := goodIn_r _ [17, 18, 19, 24, 25] (by decide +kernel) (by decide +kernel)
set_option maxRecDepth 20000 in
theorem gX4_mostCommonOfTwo_X2_common : GoodIn wsX4_mostCommonOfTwo (wsV RX4 72 RX2 yX2_common wsX2_common) := goodIn_app (goodIn_of _ (by decide +kernel)) ggX4_mostCommonOfTwo_X2_common
theorem dX4_mostCommonOfTwo_0 : decode cX4_mostCommonOfTwo 0 = .ok (.iconst 0, 1) := by decide +kernel
theorem dX4_mostCommonOfTwo_1 : decode cX4_mostCommonOfTwo 1 = .ok (.istore_n 1, 1) := by decide +kernel
theorem dX4_mostCommonOfTwo_2 : decode cX4_mostCommonOfTwo 2 = .ok (.iconst 0, 1) := by decide +kernel
theorem dX4_mostCommonOfTwo_3 : decode cX4_mostCommonOfTwo 3 = .ok (.istore_n 2, 1) := by decide +kernel
theorem dX4_mostCommonOfTwo_4 : decode cX4_mostCommonOfTwo 4 = .ok (.iload_n 2, 1) := by decide +kernel
theorem dX4_mostCommonOfTwo_5 : decode cX4_mostCommonOfTwo 5 = .ok (.aload_n 0, 1) := by decide +kernel
theorem dX4_mostCommonOfTwo_6 : decode cX4_mostCommonOfTwo 6 = .ok (.getfield 28, 3) := by decide +kernel
theorem dX4_mostCommonOfTwo_9 : decode cX4_mostCommonOfTwo 9 = .ok (.if_icmp .ge 45, 3) := by decide +kernel
theorem dX4_mostCommonOfTwo_12 : decode cX4_mostCommonOfTwo 12 = .ok (.iload_n 2, 1) := by decide +kernel
theorem dX4_mostCommonOfTwo_13 : decode cX4_mostCommonOfTwo 13 = .ok (.iconst 1, 1) := by decide +kernel
theorem dX4_mostCommonOfTwo_14 : decode cX4_mostCommonOfTwo 14 = .ok (.iadd, 1) := by decide +kernel
theorem dX4_mostCommonOfTwo_15 : decode cX4_mostCommonOfTwo 15 = .ok (.istore_n 3, 1) := by decide +kernel
theorem dX4_mostCommonOfTwo_16 : decode cX4_mostCommonOfTwo 16 = .ok (.iload_n 3, 1) := by decide +kernel
theorem dX4_mostCommonOfTwo_17 : decode cX4_mostCommonOfTwo 17 = .ok (.aload_n 0, 1) := by decide +kernel
theorem dX4_mostCommonOfTwo_18 : decode cX4_mostCommonOfTwo 18 = .ok (.getfield 28, 3) := by decide +kernel
theorem dX4_mostCommonOfTwo_21 : decode cX4_mostCommonOfTwo 21 = .ok (.if_icmp .ge 27, 3) := by decide +kernel
theorem dX4_mostCommonOfTwo_24 : decode cX4_mostCommonOfTwo 24 = .ok (.iload_n 1, 1) := by decide +kernel
theorem dX4_mostCommonOfTwo_25 : decode cX4_mostCommonOfTwo 25 = .ok (.aload_n 0, 1) := by decide +kernel
theorem dX4_mostCommonOfTwo_26 : decode cX4_mostCommonOfTwo 26 = .ok (.iload_n 2, 1) := by decide +kernel
theorem dX4_mostCommonOfTwo_27 : decode cX4_mostCommonOfTwo 27 = .ok (.invokevirtual 32, 3) := by decide +kernel
theorem dX4_mostCommonOfTwo_30 : decode cX4_mostCommonOfTwo 30 = .ok (.aload_n 0, 1) := by decide +kernel
theorem dX4_mostCommonOfTwo_31 : decode cX4_mostCommonOfTwo 31 = .ok (.iload_n 3, 1) := by decide +kernel
theorem dX4_mostCommonOfTwo_32 : decode cX4_mostCommonOfTwo 32 = .ok (.invokevirtual 32, 3) := by decide +kernel
theorem dX4_mostCommonOfTwo_35 : decode cX4_mostCommonOfTwo 35 = .ok (.invokevirtual 72, 3) := by decide +kernel
theorem dX4_mostCommonOfTwo_38 : decode cX4_mostCommonOfTwo 38 = .ok (.invokestatic 66, 3) := by decide +kernel
theorem dX4_mostCommonOfTwo_41 : decode cX4_mostCommonOfTwo 41 = .ok (.istore_n 1, 1) := by decide +kernel
theorem dX4_mostCommonOfTwo_42 : decode cX4_mostCommonOfTwo 42 = .ok (.iinc 3 1, 3) := by decide +kernel
theorem dX4_mostCommonOfTwo_45 : decode cX4_mostCommonOfTwo 45 = .ok (.goto (-29), 3) := by decide +kernel
theorem dX4_mostCommonOfTwo_48 : decode cX4_mostCommonOfTwo 48 = .ok (.iinc 2 1, 3) := by decide +kernel
theorem dX4_mostCommonOfTwo_51 : decode cX4_mostCommonOfTwo 51 = .ok (.goto (-47), 3) := by decide +kernel
theorem dX4_mostCommonOfTwo_54 : decode cX4_mostCommonOfTwo 54 = .ok (.iload_n 1, 1) := by decide +kernel
theorem dX4_mostCommonOfTwo_55 : decode cX4_mostCommonOfTwo 55 = .ok (.ireturn, 1) := by decide +kernel
